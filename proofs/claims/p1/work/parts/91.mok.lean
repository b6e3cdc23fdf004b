theorem sx_m_r0 : sx_ev1 sx_mB (sx_lg [] sxPT 0) 0 = true := by decide +kernel
theorem sx_m_r1 : sx_ev1 sx_mB (sx_lg [] sxPT 1) 16 = true := by decide +kernel
theorem sx_m_r2 : sx_ev1 sx_mB (sx_lg [] sxPT 2) 32 = true := by decide +kernel
theorem sx_m_r3 : sx_ev1 sx_mB (sx_lg [] sxPT 3) 48 = true := by decide +kernel
theorem sx_m_r4 : sx_ev1 sx_mB (sx_lg [] sxPT 4) 64 = true := by decide +kernel
theorem sx_m_r5 : sx_ev1 sx_mB (sx_lg [] sxPT 5) 80 = true := by decide +kernel
theorem sx_m_r6 : sx_ev1 sx_mB (sx_lg [] sxPT 6) 96 = true := by decide +kernel
theorem sx_m_r7 : sx_ev1 sx_mB (sx_lg [] sxPT 7) 112 = true := by decide +kernel
theorem sx_m_r8 : sx_ev1 sx_mB (sx_lg [] sxPT 8) 128 = true := by decide +kernel
theorem sx_m_r9 : sx_ev1 sx_mB (sx_lg [] sxPT 9) 144 = true := by decide +kernel
theorem sx_m_r10 : sx_ev1 sx_mB (sx_lg [] sxPT 10) 160 = true := by decide +kernel
theorem sx_m_r11 : sx_ev1 sx_mB (sx_lg [] sxPT 11) 176 = true := by decide +kernel
theorem sx_m_r12 : sx_ev1 sx_mB (sx_lg [] sxPT 12) 192 = true := by decide +kernel
theorem sx_m_r13 : sx_ev1 sx_mB (sx_lg [] sxPT 13) 208 = true := by decide +kernel
theorem sx_m_r14 : sx_ev1 sx_mB (sx_lg [] sxPT 14) 224 = true := by decide +kernel
theorem sx_m_r15 : sx_ev1 sx_mB (sx_lg [] sxPT 15) 240 = true := by decide +kernel
theorem sx_m_r16 : sx_ev1 sx_mB (sx_lg [] sxPT 16) 256 = true := by decide +kernel
theorem sx_m_r17 : sx_ev1 sx_mB (sx_lg [] sxPT 17) 272 = true := by decide +kernel
theorem sx_m_r18 : sx_ev1 sx_mB (sx_lg [] sxPT 18) 288 = true := by decide +kernel
theorem sx_m_r19 : sx_ev1 sx_mB (sx_lg [] sxPT 19) 304 = true := by decide +kernel
theorem sx_m_r20 : sx_ev1 sx_mB (sx_lg [] sxPT 20) 320 = true := by decide +kernel
theorem sx_m_r21 : sx_ev1 sx_mB (sx_lg [] sxPT 21) 336 = true := by decide +kernel
theorem sx_m_r22 : sx_ev1 sx_mB (sx_lg [] sxPT 22) 352 = true := by decide +kernel
theorem sx_m_r23 : sx_ev1 sx_mB (sx_lg [] sxPT 23) 368 = true := by decide +kernel
theorem sx_cal_ok : ∀ a N, sxP a = some N → sx_cal a N (sxM a).2.2.2.1 (sxM a).2.2.2.2.1 := fun a N h => sx_calB_ok (sx_rows (f := fun a N => sx_calB a N (sxI a).1) (l := sxPT) (n := 24) (fun k hk => match k, hk with
  | 0, _ => sx_cal_r0
  | 1, _ => sx_cal_r1
  | 2, _ => sx_cal_r2
  | 3, _ => sx_cal_r3
  | 4, _ => sx_cal_r4
  | 5, _ => sx_cal_r5
  | 6, _ => sx_cal_r6
  | 7, _ => sx_cal_r7
  | 8, _ => sx_cal_r8
  | 9, _ => sx_cal_r9
  | 10, _ => sx_cal_r10
  | 11, _ => sx_cal_r11
  | 12, _ => sx_cal_r12
  | 13, _ => sx_cal_r13
  | 14, _ => sx_cal_r14
  | 15, _ => sx_cal_r15
  | 16, _ => sx_cal_r16
  | 17, _ => sx_cal_r17
  | 18, _ => sx_cal_r18
  | 19, _ => sx_cal_r19
  | 20, _ => sx_cal_r20
  | 21, _ => sx_cal_r21
  | 22, _ => sx_cal_r22
  | 23, _ => sx_cal_r23
  | k + 24, hk => absurd hk (by omega)) (by decide +kernel) h)
/-- every method's table is right -/
theorem sx_ok : ∀ j M, sxP j = some M → sx_mok sxg sxP j M := fun j M h => sx_mB_ok sx_all_ok sx_cal_ok sx_thr_ok sx_ncs_ok sx_lk_ok sx_sw_ok (sx_rows (f := sx_mB) (l := sxPT) (n := 24) (fun k hk => match k, hk with
  | 0, _ => sx_m_r0
  | 1, _ => sx_m_r1
  | 2, _ => sx_m_r2
  | 3, _ => sx_m_r3
  | 4, _ => sx_m_r4
  | 5, _ => sx_m_r5
  | 6, _ => sx_m_r6
  | 7, _ => sx_m_r7
  | 8, _ => sx_m_r8
  | 9, _ => sx_m_r9
  | 10, _ => sx_m_r10
  | 11, _ => sx_m_r11
  | 12, _ => sx_m_r12
  | 13, _ => sx_m_r13
  | 14, _ => sx_m_r14
  | 15, _ => sx_m_r15
  | 16, _ => sx_m_r16
  | 17, _ => sx_m_r17
  | 18, _ => sx_m_r18
  | 19, _ => sx_m_r19
  | 20, _ => sx_m_r20
  | 21, _ => sx_m_r21
  | 22, _ => sx_m_r22
  | 23, _ => sx_m_r23
  | k + 24, hk => absurd hk (by omega)) (by decide +kernel) h)
