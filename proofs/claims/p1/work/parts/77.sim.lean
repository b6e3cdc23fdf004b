/-- a program's static side: the words, the classes, arrays' classes, new objects; the methods at the machine; what each needs of frames and of words of locals -/
abbrev sx_Pg : Type := List Cond × List vw_C × List Nat × (Nat → List Value) × (Nat → sx_Inf) × (Nat → Nat) × (Nat → Nat)
abbrev sx_sd (g : sx_Pg) (j : Nat) : sx_Sd := (g.1, g.2.1, g.2.2.1, g.2.2.2.1, (g.2.2.2.2.1 j).1.cls, (g.2.2.2.2.1 j).1.name, g.2.2.2.2.2.1 j, g.2.2.2.2.2.2 j)
/-- a throw: new, dup, ldc, <init>, athrow -/
def sx_tok (g : sx_Pg) (j : Nat) (en : sx_N) : Prop := ∃ (idx k ic ln : Nat) (text X : String) (names : List String) (T0 : u_T), (g.2.2.2.2.1 j).2.2.2 = [] ∧ g.2.1[en.2.1]? = some (X, T0, 0) ∧ Cond.classLink (g.2.2.2.2.1 j).1.cls idx X ∈ g.1 ∧ Cond.instantiable X 6 ∈ g.1 ∧ Cond.initialized X ∈ g.1 ∧ Cond.stringRef (g.2.2.2.2.1 j).1.cls k text ∈ g.1 ∧ Bundle.fit X = true ∧ (∀ n ∈ names, Bundle.fit n = true) ∧
  (∀ a ∈ Bundle.ownAtoms (g.2.2.2.2.1 j).1.cls ic X names, a ∈ g.1) ∧ decode (g.2.2.2.2.1 j).2.1 en.2.2.2.1 = .ok (.new idx, 3) ∧ decode (g.2.2.2.2.1 j).2.1 (en.2.2.2.1 + 3) = .ok (.dup, 1) ∧ sx_lds (g.2.2.2.2.1 j).2.1 (en.2.2.2.1 + 4) ln k ∧ decode (g.2.2.2.2.1 j).2.1 (en.2.2.2.1 + 4 + ln) = .ok (.invokespecial ic, 3) ∧ decode (g.2.2.2.2.1 j).2.1 (en.2.2.2.1 + 4 + ln + 3) = .ok (.athrow, 1) ∧
  names.length + 3 < g.2.2.2.2.2.1 j ∧ 9 + (13 * (names.length + 1) + 42) ≤ g.2.2.2.2.2.2 j
/-- a call's entry is right -/
def sx_lok (g : sx_Pg) (P : Nat → Option sx_Mt) (j : Nat) (M : sx_Mt) (i : Nat) (en : sx_N) : Prop := ∃ (idx : Nat) (N : sx_Mt), en.2.2.2.2.2 = sx_inv en.1 idx ∧ P en.2.1 = some N ∧ sx_vok g.1 (g.2.2.2.2.1 j).1.cls en.1 idx (g.2.2.2.2.1 en.2.1) N.1 en.2.2.1 ∧ sx_cw g.1 (g.2.2.2.2.1 en.2.1) N.1 ∧ (en.1 = 56 → ∃ z : vw_C, g.2.1[N.2.1]? = some z ∧ z.1 = (g.2.2.2.2.1 en.2.1).1.cls) ∧
  g.2.2.2.2.2.1 en.2.1 + 1 ≤ g.2.2.2.2.2.1 j ∧ 8 + (N.1 + 11) + g.2.2.2.2.2.2 en.2.1 ≤ g.2.2.2.2.2.2 j ∧ en.2.2.1 ≤ N.1 ∧ sx_nx M.2.2.2.2 i en 3 ∧ ∃ e0 : sx_N, sx_at N.2.2.2.2 0 = some e0 ∧ e0.2.2.2.1 = 0
def sx_eok (g : sx_Pg) (P : Nat → Option sx_Mt) (j : Nat) (M : sx_Mt) (i : Nat) (en : sx_N) : Prop := decode (g.2.2.2.2.1 j).2.1 en.2.2.2.1 = .ok (en.2.2.2.2.2, en.2.2.2.2.1) ∧
  ((en.1 < 56 ∧ sx_pl (sx_sd g j) M.2.2.2.2 i en ∧ (en.1 = 3 ∨ en.1 = 4 → en.2.1 < M.1)) ∨ ((56 ≤ en.1 ∧ en.1 < 59) ∧ sx_lok g P j M i en) ∨
   (en.1 = 59 ∧ en.2.2.2.2.2 = .return_ ∧ en.2.2.2.2.1 = 1 ∧ M.2.2.1 = 0 ∧ (g.2.2.2.2.1 j).2.2.1 = none) ∨
   (en.1 = 60 ∧ en.2.2.2.2.2 = .ireturn ∧ en.2.2.2.2.1 = 1 ∧ (M.2.2.1 = 1 ∧ (g.2.2.2.2.1 j).2.2.1 = some .int ∨ M.2.2.1 = 2 ∧ (g.2.2.2.2.1 j).2.2.1 = some .boolean)) ∨
   (en.1 = 61 ∧ en.2.2.2.2.2 = .areturn ∧ en.2.2.2.2.1 = 1 ∧ M.2.2.1 = 3 ∧ ∃ rt, (g.2.2.2.2.1 j).2.2.1 = some rt ∧ ((∃ n, rt = .object n) ∨ ∃ t, rt = .array t)) ∨
   (en.1 = 62 ∧ sx_tok g j en) ∨ 63 ≤ en.1)
def sx_mok (g : sx_Pg) (P : Nat → Option sx_Mt) (j : Nat) (M : sx_Mt) : Prop := (∀ r ∈ M.2.2.2.2, r.length ≤ 16) ∧ sx_hOK g.1 g.2.1 M.2.2.2.2 (g.2.2.2.2.1 j).1.cls M.2.2.2.1 (g.2.2.2.2.1 j).2.2.2 ∧ (∀ q ∈ M.2.2.2.1, sx_xOK g.1 g.2.1 M.2.2.2.1 q.2.2.2) ∧ ∀ (i : Nat) (en : sx_N), sx_at M.2.2.2.2 i = some en → sx_eok g P j M i en
theorem sx_hand_mem {hs : List (Nat × Nat × Nat × Nat)} {pc ci t : Nat} (h : sx_hand hs pc ci = some t) : ∃ q ∈ hs, q.2.2.2 = ci := by
  induction hs with
  | nil => cases h
  | cons q hs ih =>
    have h : (bif Nat.ble q.1 pc && Nat.blt pc q.2.1 && Nat.beq q.2.2.2 ci then some q.2.2.1 else sx_hand hs pc ci) = some t := h
    cases hc : (Nat.ble q.1 pc && Nat.blt pc q.2.1 && Nat.beq q.2.2.2 ci) with
    | true =>
      rw [Bool.and_eq_true] at hc
      exact ⟨q, List.mem_cons_self, Nat.eq_of_beq_eq_true hc.2⟩
    | false =>
      rw [hc] at h
      obtain ⟨q', h1, h2⟩ := ih h
      exact ⟨q', List.mem_cons_of_mem _ h1, h2⟩
theorem sx_exec_at {lim : Nat × Nat} {P : Nat → Option sx_Mt} {D : Nat → List Value} {S : List Int32} {n j i : Nat} {ls : sx_L} {st : List Value} {h : sx_H} {r : sx_R} {M : sx_Mt} (he : sx_exec lim P D S n j i ls st h = some r) (hP : P j = some M) : ∃ en, sx_at M.2.2.2.2 i = some en := by
  cases n with
  | zero => cases he
  | succ n =>
    rw [sx_exec_succ] at he
    unfold sx_body at he
    rw [hP] at he
    dsimp only at he
    split at he
    · cases he
    · next en hen => exact ⟨en, hen⟩
set_option maxHeartbeats 4000000 in
theorem sx_sim {g : sx_Pg} {P : Nat → Option sx_Mt} {S : List Int32} {lim : Nat × Nat} {w : sx_Wd} (hOK : ∀ j M, P j = some M → sx_mok g P j M) (hcl : sx_clOK g.1 g.2.1) (hbB : w.1 < w.2.1) :
    ∀ (n j : Nat) (M : sx_Mt) (i : Nat) (en : sx_N) (ls : sx_L) (st : List Value) (h : sx_H) (r : sx_R), sx_exec lim P g.2.2.2.1 S n j i ls st h = some r → P j = some M → sx_at M.2.2.2.2 i = some en →
      ∀ (p : Program) (l : Launch) (e : Env) (R : Room) (s : State) (m : MethodId) (args : Array Value) (below : List Frame) (meth : Method) (c : Code) (n0 z0 : Nat), p.tables.exec = Jvm.exec → e.platform.stackTraces = false → sx_mAt (g.2.2.2.2.1 j) M.1 s m meth c → (∀ x ∈ g.1, sx_stays s w.2.1 x) → sx_KR w g.2.1 g.2.2.1 s → va_X w.1 S.length (fun j => sx_lg 0 S j) s s.heap →
        lim.1 - n0 ≤ R.cells → lim.2 - z0 ≤ R.slots → g.2.2.2.2.2.1 j ≤ R.frames → g.2.2.2.2.2.2 j ≤ R.locals → sx_At p l e R s m args below meth c (sx_Qe below s w g.2.1 g.2.2.1 n0 z0 r) M.1 w g.2.1 g.2.2.1 n0 z0 en.2.2.2.1 ls st h := by
  intro n
  induction n with
  | zero => intro j M i en ls st h r he; cases he
  | succ n ih =>
    intro j M i en ls st h r he hP hen p l e R s m args below meth c n0 z0 hx htr hmA hts hK hX hrc hrs hfr hlo
    obtain ⟨hrw, hhok, hxok, hent⟩ := hOK j M hP
    obtain ⟨hd, hcase⟩ := hent i en hen
    obtain ⟨k1, k2, k3, k4, k5, k6, k7, k8, k9, k10⟩ := id hmA
    have E : sx_Ev p R s m args c (g.2.2.2.2.1 j).2.1 M.1 (g.2.2.2.2.1 j).1.cls g.1 w g.2.1 g.2.2.1 S lim n0 z0 (g.2.2.2.2.2.1 j) (g.2.2.2.2.2.2 j) := ⟨hx, k4, k5, findClass_of_methodNamed k1, hts, hK, hcl, hX, hbB, hrc, hrs, hfr, hlo⟩
    rw [sx_exec_succ] at he
    unfold sx_body at he
    rw [hP] at he
    dsimp only at he
    rw [hen] at he
    dsimp only at he
    rcases hcase with ⟨ho, hpl, hnl⟩ | ⟨⟨ho1, ho2⟩, idx, N, c1, c2, c3, c4, c5, c6, c7, c8, c9, e0, c10, c11⟩ | ⟨ho, h2, h3, h4, h5⟩ | ⟨ho, h2, h3, h4⟩ | ⟨ho, h2, h3, h4, rt, h5, h6⟩ | ⟨ho, idx, k, ic, ln, text, X, names, T0, t1, t2, t3, t4, t5, t6, t7, t8, t9, t10, t11, t12, t13, t14, t15, t16⟩ | ho
    · rw [show Nat.blt en.1 56 = true from Nat.blt_eq.mpr ho] at he
      have he : sx_plain lim g.2.2.2.1 S (sx_exec lim P g.2.2.2.1 S n) j i M en ls st h = some r := he
      unfold sx_plain at he
      split at he
      · cases he
      · next t ls1 st1 h1 hs =>
        obtain ⟨e1, he1⟩ := sx_exec_at he hP
        exact sx_w_plain (q := sx_sd g j) E k10 hrw hnl hpl hd hs he1 (ih j M _ e1 ls1 st1 h1 r he hP he1 p l e R s m args below meth c n0 z0 hx htr hmA hts hK hX hrc hrs hfr hlo)
    · rw [show Nat.blt en.1 56 = false from by rw [Bool.eq_false_iff, Ne, Nat.blt_eq]; omega] at he
      have he : sx_special lim P (sx_exec lim P g.2.2.2.1 S n) j i M en ls st h = some r := he
      unfold sx_special at he
      rw [show Nat.blt en.1 59 = true from Nat.blt_eq.mpr ho2] at he
      have he : sx_call lim P (sx_exec lim P g.2.2.2.1 S n) j i M en ls st h = some r := he
      unfold sx_call at he
      rw [c2] at he
      split at he
      · next as rest N' ha hN =>
        cases hN
        have hdc : decode (g.2.2.2.2.1 j).2.1 en.2.2.2.1 = .ok (sx_inv en.1 idx, 3) := by rw [← c1, ← c9.1]; exact hd
        cases hcond : (Nat.ble (rest.map fun v => v.category).sum 8 && as.all (fun v => Nat.beq v.category 1) && sx_recv en.1 N.2.1 h as && (Nat.ble h.1 lim.1 && Nat.ble h.2.1 lim.2)) with
        | false => rw [hcond] at he; cases he
        | true =>
          rw [hcond] at he
          dsimp only [cond] at he
          split at he
          · next v h1 hcall =>
            obtain ⟨e1, he1⟩ := sx_exec_at he hP
            refine sx_w_call E k8 k6 hhok c3 c4 c5 c6 c7 c8 ha hcond (r1 := (.inl v, h1)) (fun s' mk a' below' methk ck hm1 hst1 hK1 hX1 => ?_) hdc (fun v' hv => ?_) (fun x hx9 => by cases hx9)
            · have h9 := ih en.2.1 N 0 e0 (sx_locs as 0) [] h _ hcall c2 c10 p l e ({ frames := g.2.2.2.2.2.1 en.2.1, cells := lim.1 - h.1, slots := lim.2 - h.2.1, locals := g.2.2.2.2.2.2 en.2.1 } : Room) s' mk a' below' methk ck h.1 h.2.1 hx htr hm1 hst1 hK1 hX1 (Nat.le_refl _) (Nat.le_refl _) (Nat.le_refl _) (Nat.le_refl _)
              rw [c11] at h9
              exact h9
            · cases hv
              rw [← c9.2 e1 he1]
              exact ih j M (i + 1) e1 ls _ h1 r he hP he1 p l e R s m args below meth c n0 z0 hx htr hmA hts hK hX hrc hrs hfr hlo
          · next x h1 hcall =>
            refine sx_w_call E k8 k6 hhok c3 c4 c5 c6 c7 c8 ha hcond (r1 := (.inr x, h1)) (fun s' mk a' below' methk ck hm1 hst1 hK1 hX1 => ?_) hdc (fun v' hv => by cases hv) (fun x9 hx9 => ?_)
            · have h9 := ih en.2.1 N 0 e0 (sx_locs as 0) [] h _ hcall c2 c10 p l e ({ frames := g.2.2.2.2.2.1 en.2.1, cells := lim.1 - h.1, slots := lim.2 - h.2.1, locals := g.2.2.2.2.2.2 en.2.1 } : Room) s' mk a' below' methk ck h.1 h.2.1 hx htr hm1 hst1 hK1 hX1 (Nat.le_refl _) (Nat.le_refl _) (Nat.le_refl _) (Nat.le_refl _)
              rw [c11] at h9
              exact h9
            · cases hx9
              unfold sx_thrown at he
              split at he
              · next hemp =>
                cases he
                exact Or.inl ⟨hemp, rfl⟩
              · next q0 qs hcons =>
                split at he
                · next o9 hget =>
                  split at he
                  · next t9 hhand =>
                    obtain ⟨q9, m1, m2⟩ := sx_hand_mem hhand
                    refine Or.inr ⟨o9, t9, hget, hhand, by rw [← m2]; exact hxok q9 m1, fun en1 h9 => ?_⟩
                    exact ih j M t9 en1 ls _ h1 r he hP h9 p l e R s m args below meth c n0 z0 hx htr hmA hts hK hX hrc hrs hfr hlo
                  · cases he
                · cases he
          · cases he
      · cases he
    · rw [h2, h3] at hd
      rw [ho] at he
      have he : sx_special lim P (sx_exec lim P g.2.2.2.1 S n) j i M en ls st h = some r := he
      unfold sx_special at he
      rw [ho] at he
      have he : sx_ends h (sx_r0 M.2.2.1 st) = some r := he
      rw [h4] at he
      unfold sx_ends at he
      split at he
      · next v hv =>
        cases he
        exact sx_w_ret hx k4 k8 (k7.trans h5) hd hv
      · cases he
    · rw [h2, h3] at hd
      rw [ho] at he
      have he : sx_special lim P (sx_exec lim P g.2.2.2.1 S n) j i M en ls st h = some r := he
      unfold sx_special at he
      rw [ho] at he
      have he : sx_ends h (sx_r1 M.2.2.1 st) = some r := he
      unfold sx_ends at he
      split at he
      · next v hv =>
        cases he
        exact sx_w_iret hx k4 k8 (by rcases h4 with ⟨a1, a2⟩ | ⟨a1, a2⟩; exact Or.inl ⟨a1, k7.trans a2⟩; exact Or.inr ⟨a1, k7.trans a2⟩) hd hv
      · cases he
    · rw [h2, h3] at hd
      rw [ho] at he
      have he : sx_special lim P (sx_exec lim P g.2.2.2.1 S n) j i M en ls st h = some r := he
      unfold sx_special at he
      rw [ho] at he
      have he : sx_ends h (sx_r2 M.2.2.1 st) = some r := he
      rw [h4] at he
      unfold sx_ends at he
      split at he
      · next v hv =>
        cases he
        exact sx_w_aret hx k4 k8 (k7.trans h5) h6 hd hv
      · cases he
    · rw [ho] at he
      have he : sx_special lim P (sx_exec lim P g.2.2.2.1 S n) j i M en ls st h = some r := he
      unfold sx_special at he
      rw [ho] at he
      exact sx_w_throw E k8 htr (fun x9 h9 => by rw [k6, t1] at h9; cases h9) t2 t3 t4 t5 t6 t7 t8 t9 t10 t11 t12 t13 t14 t15 t16 he
    · exfalso
      rw [show Nat.blt en.1 56 = false from by rw [Bool.eq_false_iff, Ne, Nat.blt_eq]; omega] at he
      have he : sx_special lim P (sx_exec lim P g.2.2.2.1 S n) j i M en ls st h = some r := he
      unfold sx_special at he
      rw [show Nat.blt en.1 59 = false from by rw [Bool.eq_false_iff, Ne, Nat.blt_eq]; omega, show Nat.blt en.1 61 = false from by rw [Bool.eq_false_iff, Ne, Nat.blt_eq]; omega, show Nat.beq en.1 61 = false from by rw [Bool.eq_false_iff]; intro h9; have := Nat.eq_of_beq_eq_true h9; omega, show Nat.beq en.1 62 = false from by rw [Bool.eq_false_iff]; intro h9; have := Nat.eq_of_beq_eq_true h9; omega] at he
      cases he
