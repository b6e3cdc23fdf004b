/-! ===== the reference: offer, by the whole state ===== -/
noncomputable section
section
variable {I J : sr_V} {nn nm us m : Nat} {K K' : Wt → Prop} {tl tp mk mm : List Wt} {rd : Nat → Int} {ms ms' : List (List Wt)} {x : Int} {B : Nat → v_M} {v : v_M} {P : Nat → Nat → Prop} {R : Int → sr_V → Prop} {Lk : List (Nat × Wt × Wt)}
/-- a member whose PACKAGEs alone are others -/
def v_ok1 (v : v_M) (Lk : List (Nat × Wt × Wt)) : v_M := (v_in v, v_G v, v_pd v, v_La v, v_U v, Lk)
theorem m_zm_pk (h : m_zm I mk ms m v) (g : m_gp P I J) (hl : w_le mk mm) (hs : w_msl ms ms') (p : ∀ f k, P f k → ¬ ((f = 27 ∨ f = 28 ∨ f = 35 ∨ f = 47) ∧ k = m) ∧ ¬ m_pl m f k ∧ ¬ m_pl (24 + m) f k ∧ ¬ m_kq m f k ∧ ¬ ((f = 53 ∨ f = 54) ∧ 40 * m ≤ k ∧ k < 40 * m + 40)) (hk : m_pk J mm m Lk) : m_zm J mm ms' m (v_ok1 v Lk) := by
  obtain ⟨h1, h2, h3, h4, h5, h6⟩ := h
  have e : ∀ f, f = 27 ∨ f = 28 ∨ f = 35 → J f m = I f m := fun f hf => g f m (fun q => by have := (p f m q).1; omega)
  refine ⟨?_, fun hin => ?_, ?_, ?_, ?_, hk⟩
  · rw [e 27 (by omega)]; exact h1
  · exact m_st_le (m_st_gp (h2 hin) g (fun f k a b => (p f k b).2.1 a)) hl
  · show d_pend J mm m ms' (v_pd v)
    obtain ⟨o, eo⟩ : ∃ o, v_pd v = o := ⟨_, rfl⟩
    rw [eo] at h3 ⊢
    cases o with
    | none => exact (e 28 (by omega)).trans h3
    | some pp =>
      obtain ⟨lp, G'⟩ := pp
      obtain ⟨a1, ⟨pn, a2, a3⟩, a4⟩ := h3
      exact ⟨(e 28 (by omega)).trans a1, ⟨pn, (e 35 (by omega)).trans a2, hs pn lp a3⟩, m_st_le (m_st_gp a4 g (fun f k a b => (p f k b).2.2.1 a)) hl⟩
  · exact m_pp_gp h4 g (fun f k q => (p f k q).2.2.2.1) hl hs
  · exact m_up_gp h5 g (fun f k q => ⟨fun a => (p f k q).1 (by omega), (p f k q).2.2.2.2⟩) hl
theorem m_po_no {f k : Nat} (h : m_po m us f k) : ¬ (f = 1 ∨ f = 2 ∨ f = 20 ∨ f = 21) ∧ ¬ (f = 1000 ∧ k = 3) ∧ (((f = 45 ∧ k = m) ∨ ((f = 48 ∨ f = 49 ∨ f = 50) ∧ 8 * m ≤ k ∧ k < 8 * m + 8)) ∨ (f < 27 ∨ 54 < f)) := by
  unfold m_po m_p2 at h
  rcases h with (h | h | h | h | h | ⟨h1, h2⟩) | h | h | h | h | h | h | ⟨h1, h2⟩
  · refine ⟨by omega, by omega, Or.inr (by omega)⟩
  · refine ⟨by omega, by omega, Or.inr (by omega)⟩
  · refine ⟨by omega, by omega, Or.inr (by omega)⟩
  · refine ⟨by omega, by omega, Or.inr (by omega)⟩
  · refine ⟨by omega, by omega, Or.inr (by omega)⟩
  · refine ⟨by omega, by omega, Or.inr (by omega)⟩
  · refine ⟨by omega, by omega, Or.inr (by omega)⟩
  · refine ⟨by omega, by omega, Or.inr (by omega)⟩
  · refine ⟨by omega, by omega, Or.inr (by omega)⟩
  · refine ⟨by omega, by omega, Or.inr (by omega)⟩
  · exact ⟨by omega, by omega, Or.inl (Or.inl h)⟩
  · exact ⟨by omega, by omega, Or.inl (Or.inr h)⟩
  · refine ⟨by omega, by omega, Or.inr (by omega)⟩
/-- a member that offered -/
def v_of (nn n : Nat) (v : v_M) : v_M := v_ok1 v (v_Lk v ++ [(n, w_nm nn, w_nm (nn + 1))])
theorem z_of_go {J : sr_V} (hm : m < 24) (h : m_ZZ I mk us nn K tl tp rd ms B) (hle : w_le mk mm) (hs : w_msl ms ms') (hL : m_L J mm nm K' tl) (hM : m_M J (w_d mm) ms') (hk : m_pk J mm m Lk) (g : m_gp (m_po m (I 1000 23).toNat) I J) : m_ZZ J mm (J 1000 23).toNat nm K' tl tp rd ms' (v_up B m (v_ok1 (B m) Lk)) := by
  have ll := w_le_len hle
  have i4 := h.1.1.2.2.2.1
  have j4 := hL.2.2.2.1
  have le4 : I 1000 4 ≤ J 1000 4 := by omega
  have he : ∀ u : Nat, (u : Int) ≤ I 1000 4 → w_d mm u = w_d mk u := fun u hu => w_le_d hle (by omega)
  have g0 := hM.2.2.1
  have hme : m_me J mm := m_me_le (m_me_gp h.1.2.1 g (fun f k c => by have := (m_po_no c).1; omega)) hle
  have hP : m_P J (w_d mm) tp := m_P_e (funext (fun k => g 2 k (fun q => by have := (m_po_no q).1; omega))) (g 1000 3 (fun q => by have := (m_po_no q).2.1; omega)) le4 he h.2.1
  have hY : m_Y J rd := fun k hk => by
    rw [g 1 k (fun q => by have := (m_po_no q).1; omega)]
    exact h.2.2.1 k hk
  refine m_ZZ_up h ⟨hL, hme, hM, by omega⟩ hP hY hle hs g (fun f k c j hj cj => ?_) (m_zm_pk (h.2.2.2.2 m hm) g hle hs (fun f k c => ?_) hk)
  · rcases (m_po_no c).2.2 with c | c
    · refine m_zp_ne hm hj cj ?_
      rcases c with c | c
      · exact Or.inl ⟨by omega, c.2⟩
      · exact Or.inr (Or.inr (Or.inr (Or.inr (Or.inr c))))
    · exact m_zp_hi c
  · have q := (m_po_no c).2.2
    unfold m_pl m_kq
    rcases q with (⟨q, _⟩ | ⟨q, _⟩) | q
    · refine ⟨by omega, by omega, by omega, by omega, by omega⟩
    · refine ⟨by omega, by omega, by omega, by omega, by omega⟩
    · refine ⟨by omega, by omega, by omega, by omega, by omega⟩
theorem z_offer (bd : ∀ m : Nat, x = m → m < 24 → ms.length < 300 → (v_Lk (B m)).length < 8 → m_bd (w_tls mk (w_ofL m nn))) (h : m_ZZ I mk us nn K tl tp rd ms B) (q1 : ∀ J us', ¬ (0 ≤ x ∧ x < 24) → m_ZZ J mk us' nn K tl tp rd ms B → J 1000 0 = 1 → R 0 J) (q2 : ∀ (m : Nat) J us', x = m → m < 24 → ms.length = 300 ∨ (v_Lk (B m)).length = 8 → m_ZZ J mk us' nn K tl tp rd ms B → J 1000 0 = 2 → R 0 J) (q : ∀ (m : Nat) J us', x = m → m < 24 → ms.length < 300 → (v_Lk (B m)).length < 8 → m_ZZ J (w_tls mk (w_ofL m nn)) us' (nn + 2) (w_lrs K (w_pkg m (w_ky nn) (w_ky (nn + 1)))) tl tp rd (ms ++ [w_pkg m (w_ky nn) (w_ky (nn + 1))]) (v_up B m (v_of nn ms.length (B m))) → J 1000 0 = 0 → R ms.length J) : rm_15 x I R := by
  have zm := h.2.2.2.2
  have a1 : ¬ (0 ≤ x ∧ x < 24) → R 0 (su I 1000 0 1) := fun c => by
    obtain ⟨u1, hz1⟩ := m_ZZ_th h 1
    exact q1 (su I 1000 0 1) u1 c hz1 (su_eq I 1000 0 1)
  have a2 : ∀ m : Nat, x = m → m < 24 → ms.length = 300 ∨ (v_Lk (B m)).length = 8 → R 0 (su I 1000 0 2) := fun m hx hm h1 => by
    obtain ⟨u2, hz2⟩ := m_ZZ_th h 2
    exact q2 m (su I 1000 0 2) u2 hx hm h1 hz2 (su_eq I 1000 0 2)
  refine r_offer (Lk := fun m => v_Lk (B m)) h.1.1 h.1.2.1 h.1.2.2.1 (fun m hm => (zm m hm).2.2.2.2.2) bd a1 a2 (fun m J hx hm h3 h8 hL hM hk j0 g => ?_)
  exact q m J _ hx hm h3 h8 (z_of_go hm h (w_tls_le (w_ofL m nn) mk) (w_msl_app _ _) hL hM hk g) j0
end
end
