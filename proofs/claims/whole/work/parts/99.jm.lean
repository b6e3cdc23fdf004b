/-! ===== the reference: propose, all of it, by the whole state ===== -/
noncomputable section
section
variable {I J : sr_V} {nn nm us m : Nat} {K K' : Wt → Prop} {tl tp mk mm : List Wt} {rd : Nat → Int} {ms ms' : List (List Wt)} {x kd of : Int} {B : Nat → v_M} {v : v_M} {P : Nat → Nat → Prop} {Q : Int → sr_V → Prop}
/-- the message of a proposal -/
def v_prM (m nn : Nat) (v : v_M) (kd of : Int) (l : List Wt) : List Wt := w_prM (v_G v) m (w_prB (v_G v) kd (w_prC m nn (v_G v) kd of l))
/-- a member that proposed -/
def v_pr (m nn n : Nat) (v : v_M) (kd of : Int) (l : List Wt) : v_M := v_ok2 v (w_kp (v_La v) (w_hs (v_prM m nn v kd of l)) n) (if kd = 2 then v_U v ++ [(w_hs (v_prM m nn v kd of l), w_nm nn)] else v_U v)
theorem m_pi_sf {f k : Nat} (h : m_pi f k) : m_sf us f k := by
  unfold m_pi at h
  unfold m_sf
  omega
theorem z_propose (h : m_ZZ I mk us nn K tl tp rd ms B) (bdm : m_bd mk) (hU : ∀ m, m < 24 → (v_U (B m)).length ≤ (v_La (B m)).length) (hof : sw_c of)
    (bd : ∀ (m : Nat) l, x = m → m < 24 → v_in (B m) → ms.length < 300 → (v_La (B m)).length < 20 → (kd = 1 → ms[of.toNat]? = some l) → m_bd (w_tls mk (w_prA m nn (v_G (B m)) kd of l)))
    (q1 : ∀ J us', w_prN x kd of ms.length → m_ZZ J mk us' nn K tl tp rd ms B → J 1000 0 = 1 → Q 0 J)
    (q2 : ∀ l J us', ¬ w_prN x kd of ms.length → kd = 1 → ms[of.toNat]? = some l → ¬ w_rp K l → m_ZZ J mk us' nn K tl tp rd ms B → J 1000 0 = 2 → Q 0 J)
    (q3 : ∀ (m : Nat) J us', ¬ w_prN x kd of ms.length → (kd = 1 → ∃ l, ms[of.toNat]? = some l ∧ w_rp K l) → x = m → m < 24 → (ms.length = 300 ∨ ¬ v_in (B m) ∨ 20 ≤ (v_La (B m)).length) → m_ZZ J mk us' nn K tl tp rd ms B → J 1000 0 = 3 → Q 0 J)
    (q : ∀ (m : Nat) l J us', ¬ w_prN x kd of ms.length → (kd = 1 → ms[of.toNat]? = some l ∧ w_rp K l) → x = m → m < 24 → ms.length < 300 → v_in (B m) → (v_La (B m)).length < 20 → m_ZZ J (w_tls mk (w_prA m nn (v_G (B m)) kd of l)) us' (if kd = 2 then nn + 1 else nn) (w_lrs K (v_prM m nn (B m) kd of l)) tl tp rd (ms ++ [v_prM m nn (B m) kd of l]) (v_up B m (v_pr m nn ms.length (B m) kd of l)) → J 1000 0 = 0 → Q ms.length J) : rm_17 x kd of I Q := by
  have zm := h.2.2.2.2
  have a1 : ∀ J, w_prN x kd of ms.length → m_L J mk nn K tl → J 1000 0 = 1 → m_gp m_pi I J → Q 0 J := fun J c hL j0 g => q1 J us c (m_ZZ_gp h hL (w_le_refl _) g (fun f k p => m_pi_sf p)) j0
  have a2 : ∀ l J, ¬ w_prN x kd of ms.length → kd = 1 → ms[of.toNat]? = some l → ¬ w_rp K l → m_L J mk nn K tl → J 1000 0 = 2 → m_gp m_pi I J → Q 0 J := fun l J c1 c2 c3 c4 hL j0 g => q2 l J us c1 c2 c3 c4 (m_ZZ_gp h hL (w_le_refl _) g (fun f k p => m_pi_sf p)) j0
  have a3 : ∀ (m : Nat) J, ¬ w_prN x kd of ms.length → (kd = 1 → ∃ l, ms[of.toNat]? = some l ∧ w_rp K l) → x = m → m < 24 → (ms.length = 300 ∨ I 27 m = 0 ∨ 20 ≤ (v_La (B m)).length) → m_L J mk nn K tl → J 1000 0 = 3 → m_gp m_pi I J → Q 0 J := fun m J c1 c2 hx hm c3 hL j0 g => q3 m J us c1 c2 hx hm (by
    rcases c3 with c | c | c
    · exact Or.inl c
    · exact Or.inr (Or.inl (m_zm_no (zm m hm) c))
    · exact Or.inr (Or.inr c)) (m_ZZ_gp h hL (w_le_refl _) g (fun f k p => m_pi_sf p)) j0
  refine r_propose (Ga := fun m => v_G (B m)) (La := fun m => v_La (B m)) (Ua := fun m => v_U (B m)) h.1 bdm (fun m hm => (m_zm_01 (zm m hm)).1) (fun m hm h1 => (zm m hm).2.1 (m_zm_yes (zm m hm) h1)) (fun m hm => (zm m hm).2.2.2.1) (fun m hm => ⟨(zm m hm).2.2.2.2.1, hU m hm⟩) (fun m l hx hm h1 => bd m l hx hm (m_zm_yes (zm m hm) h1)) hof a1 a2 a3 (fun m l J c1 c2 hx hm h3 h1 h20 hL hM hp hu j0 g => ?_)
  exact q m l J _ c1 c2 hx hm h3 (m_zm_yes (zm m hm) h1) h20 (z_pr_go hm h (w_tls_le (w_prA m nn (v_G (B m)) kd of l) mk) (w_msl_app _ _) hL hM hp hu g) j0
end
end
