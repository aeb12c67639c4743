/-! the class's answers by call -/
theorem k_process {z : Nat} {H : jh} {b1 b2 : Nat} {Q Q2 : Nat → Option Nat} {I : Option Nat} {T TI : ta} {hi : Bool} {fl : Int32} {n : Nat} {tp : Nat → Int32} (C : CI z H b1 b2 Q Q2 I T hi TI fl n tp) (Wf : WFv T.1) (x a : Int32) : f_X12_process z x a H = cA H (qProcess T.1 x a) := by
  unfold f_X12_process qProcess
  rw [C.cvx, k_needP C]
  by_cases hp : isP T.1 x = true
  · obtain ⟨p, hp16, rfl, e, hp1⟩ := isP_t hp
    have hc := Wf.c0
    have h2 := Wf.pr p hp16
    obtain ⟨W, hW, CW⟩ := C.wld
    obtain ⟨H0, rfl⟩ : ∃ H0, H = pw H0 (z + 1 + 1) W := ⟨H, hW.eq.symm⟩
    rw [if_pos hp, if_pos hp, bX_l, e, C.r0, C.s0, pw_gR0_0]
    have e0 : W 0 p = nI (T.1 1 p) := CW.pa p 0 hp16 (by decide)
    have e1 : W 1 p = nI (T.1 2 p) := CW.pa p 1 hp16 (by decide)
    have e2 : W 2 p = nI (T.1 3 p) := CW.pa p 2 hp16 (by decide)
    have e3 : W 3 p = nI (T.1 4 p) := CW.pa p 3 hp16 (by decide)
    have e4 : W 4 p = nI (T.1 5 p) := CW.pa p 4 hp16 (by decide)
    have e5 : W 5 p = nI (T.1 6 p) := CW.pa p 5 hp16 (by decide)
    rcases i_cases a 10 (by decide) with ⟨w, hw, rfl⟩ | ho
    · rw [cl_in hw (by decide)]
      unfold qPr
      have hw' : w = 0 ∨ w = 1 ∨ w = 2 ∨ w = 3 ∨ w = 4 ∨ w = 5 ∨ w = 6 ∨ w = 7 ∨ w = 8 ∨ w = 9 := by omega
      have h7 : bn (decide (T.1 0 p = 1 ∧ T.1 7 p = 1)) = nI (T.1 7 p) := by
        have h8 : T.1 7 p = 0 ∨ T.1 7 p = 1 := by omega
        rcases h8 with h8 | h8 <;> simp [hp1, h8, bn]
      have kb : ∀ h, f_X12_bit (nI (T.1 7 p)) h = some (nI (T.1 7 p), h) := fun h => by rw [← h7]; exact c_bit _ h
      rcases hw' with rfl | rfl | rfl | rfl | rfl | rfl | rfl | rfl | rfl | rfl <;> simp (discharger := omega) only [↓al_m, ↓al_m2, al_lit, al_add, al_mul, bd_some, bn_0, bn_1, bn_jz, al_eq, if_true, if_false, not_true_eq_false, not_false_eq_true, Nat.reduceEqDiff, Nat.one_ne_zero, Nat.zero_ne_one, pw_gR1_0, pw_gR1_1, pw_gR1_2, pw_gR1_3, pw_gR1_4, pw_gR1_5, cr0, cr1, cr2, cr3, cr4, cr5, e0, e1, e2, e3, e4, e5, pw_cV1, pw_cV0, pw_cV15, pw_gR0_2, c_numberOf CW, c_in CW Wf, c_hasPower CW, c_isInit CW Wf, c_bit, h7, kb] <;> rfl
    · rw [cl_out ho]
      unfold qPr
      simp (discharger := omega) only [al_lit, i_no ho (by decide), if_true, if_false, not_true_eq_false, not_false_eq_true, Nat.reduceEqDiff, Nat.one_ne_zero, Nat.zero_ne_one]
      rfl
  · rw [if_neg hp, if_neg hp, bX_r]; rfl
theorem k_count {z : Nat} {H : jh} {b1 b2 : Nat} {Q Q2 : Nat → Option Nat} {I : Option Nat} {T TI : ta} {hi : Bool} {fl : Int32} {n : Nat} {tp : Nat → Int32} (C : CI z H b1 b2 Q Q2 I T hi TI fl n tp) (Wf : WFv T.1) (a : Int32) : f_X12_count z a H = cA H (qCount T n (cl a 13)) := by
  obtain ⟨W, hW, CW⟩ := C.wld
  obtain ⟨H0, rfl⟩ : ∃ H0, H = pw H0 (z + 1 + 1) W := ⟨H, hW.eq.symm⟩
  unfold f_X12_count
  rw [C.r0, C.s0]
  have e7 := c_there CW
  have e8 := c_power CW
  have c0 := CW.c0
  have c1 := CW.c1
  have c2 := CW.c2
  rcases i_cases a 13 (by decide) with ⟨w, hw, rfl⟩ | ho
  · rw [cl_in hw (by decide)]
    unfold qCount
    have hw' : w = 0 ∨ w = 1 ∨ w = 2 ∨ w = 3 ∨ w = 4 ∨ w = 5 ∨ w = 6 ∨ w = 7 ∨ w = 8 ∨ w = 9 ∨ w = 10 ∨ w = 11 ∨ w = 12 := by omega
    rcases hw' with rfl | rfl | rfl | rfl | rfl | rfl | rfl | rfl | rfl | rfl | rfl | rfl | rfl <;> simp (discharger := omega) only [↓al_m, ↓al_m2, al_lit, al_add, al_mul, bd_some, bn_0, bn_1, bn_jz, al_eq, if_true, if_false, not_true_eq_false, not_false_eq_true, Nat.reduceEqDiff, Nat.one_ne_zero, Nat.zero_ne_one, pw_gR0_0, pw_gR0_1, pw_gR0_2, pw_gR0_3, pw_gI1_7, pw_gI1_8, pw_gR9_0, pw_gR15_0, pw_gR23_0, pw_gI10_1, pw_gI16_1, pw_gI24_1, pw_cV9, c_deadB CW Wf, bct_e, e7, e8, c0, c1, c2, C.r0, C.r4, C.s2, C.s3, C.s5, C.n3, C.tp2, C.st3] <;> rfl
  · rw [cl_out ho]
    unfold qCount
    simp (discharger := omega) only [al_lit, i_no ho (by decide), if_true, if_false, not_true_eq_false, not_false_eq_true, Nat.reduceEqDiff, Nat.one_ne_zero, Nat.zero_ne_one]
    rfl
theorem k_number {z : Nat} {H : jh} {b1 b2 : Nat} {Q Q2 : Nat → Option Nat} {I : Option Nat} {T TI : ta} {hi : Bool} {fl : Int32} {n : Nat} {tp : Nat → Int32} (C : CI z H b1 b2 Q Q2 I T hi TI fl n tp) (Wf : WFv T.1) (x y : Int32) : f_X12_number z x y H = cA H (qNumber T.1 x y) := by
  have hc := Wf.c0
  unfold f_X12_number qNumber
  rw [C.cvx, k_needP C]
  by_cases hp : isP T.1 x = true
  · rw [if_pos hp, if_pos hp, bX_l, C.cvx, show f_X12_needSpace z 0 y H = _ from k_needS0 C Wf y]
    by_cases hs : isS T.1 10 y = true
    · rw [if_pos hs, if_pos hs, bX_l]
      obtain ⟨p, hp16, rfl, e, hp1⟩ := isP_t hp
      obtain ⟨u, hu, rfl, eu⟩ := isS_t hc.2 hs
      have hn := Wf.nm p u hp16 (by omega)
      obtain ⟨W, hW, CW⟩ := C.wld
      obtain ⟨H0, rfl⟩ : ∃ H0, H = pw H0 (z + 1 + 1) W := ⟨H, hW.eq.symm⟩
      rw [e, eu, C.r0, C.s0, pw_gR0_0, pw_cV1, c_numberOf CW p u hp16 (by omega), bd_some]
      by_cases h1 : T.1 8 (8 * p + u) = 0
      · rw [h1, if_neg (show ¬ ¬ nI 0 = 0 by decide), if_pos rfl]; rfl
      · rw [if_pos (show ¬ nI (T.1 8 (8 * p + u)) = 0 by rw [show (0 : Int32) = nI 0 from rfl, al_eq (by omega) (by omega)]; exact h1), if_neg h1]; rfl
    · rw [if_neg hs, if_neg hs, bX_r]; rfl
  · rw [if_neg hp, if_neg hp, bX_r]; rfl
theorem k_listed {z : Nat} {H : jh} {b1 b2 : Nat} {Q Q2 : Nat → Option Nat} {I : Option Nat} {T TI : ta} {hi : Bool} {fl : Int32} {n : Nat} {tp : Nat → Int32} (C : CI z H b1 b2 Q Q2 I T hi TI fl n tp) (Wf : WFv T.1) (x y : Int32) : f_X12_listed z x y H = cA H (qListed T.1 x y) := by
  have hc := Wf.c0
  unfold f_X12_listed qListed
  rw [C.cvx, show f_X12_needSpace z 0 x H = _ from k_needS0 C Wf x]
  by_cases hs : isS T.1 10 x = true
  · rw [if_pos hs, if_pos hs, bX_l]
    obtain ⟨u, hu, rfl, eu⟩ := isS_t hc.2 hs
    obtain ⟨f, hf⟩ := jfu_s
    rw [eu]
    exact c_listed_l C Wf u y hu _ (fun _ => rfl) 20 1 0 jfu (by omega) (by omega)
  · rw [if_neg hs, if_neg hs, bX_r]; rfl
theorem k_inside {z : Nat} {H : jh} {b1 b2 : Nat} {Q Q2 : Nat → Option Nat} {I : Option Nat} {T TI : ta} {hi : Bool} {fl : Int32} {n : Nat} {tp : Nat → Int32} (C : CI z H b1 b2 Q Q2 I T hi TI fl n tp) (Wf : WFv T.1) (x y : Int32) : f_X12_inside z x y H = cA H (qInside T.1 x y) := by
  have hc := Wf.c1
  unfold f_X12_inside qInside
  rw [C.cvx, show f_X12_needSpace z 1 x H = _ from k_needS1 C Wf x]
  by_cases hs : isS T.1 11 x = true
  · rw [if_pos hs, if_pos hs, bX_l, k_needI]
    obtain ⟨u, hu, rfl, eu⟩ := isS_t hc.2 hs
    by_cases hi : cl y 100 < 100
    · rw [if_pos hi, if_pos hi, bX_l]
      have ey : y = nI (cl y 100) := cl_eq (by decide) hi
      rw [ey, cl_in hi (by decide)]
      generalize cl y 100 = k at hi ⊢
      obtain ⟨W, hW, CW⟩ := C.wld
      obtain ⟨H0, rfl⟩ : ∃ H0, H = pw H0 (z + 1 + 1) W := ⟨H, hW.eq.symm⟩
      rw [eu, C.r0, C.s0, pw_gR0_2, pw_cV15, c_in CW Wf u k hu (by omega), bd_some]; rfl
    · rw [if_neg hi, if_neg hi, bX_r]; rfl
  · rw [if_neg hs, if_neg hs, bX_r]; rfl
theorem k_outside {z : Nat} {H : jh} {b1 b2 : Nat} {Q Q2 : Nat → Option Nat} {I : Option Nat} {T TI : ta} {hi : Bool} {fl : Int32} {n : Nat} {tp : Nat → Int32} (C : CI z H b1 b2 Q Q2 I T hi TI fl n tp) (Wf : WFv T.1) (x y : Int32) : f_X12_outside z x y H = cA H (qOutside T.1 x y) := by
  have hc := Wf.c1
  unfold f_X12_outside qOutside
  rw [C.cvx, show f_X12_needSpace z 1 x H = _ from k_needS1 C Wf x]
  by_cases hs : isS T.1 11 x = true
  · rw [if_pos hs, if_pos hs, bX_l, k_needI]
    obtain ⟨u, hu, rfl, eu⟩ := isS_t hc.2 hs
    by_cases hi : cl y 100 < 100
    · rw [if_pos hi, if_pos hi, bX_l]
      have ey : y = nI (cl y 100) := cl_eq (by decide) hi
      rw [ey, cl_in hi (by decide)]
      generalize cl y 100 = k at hi ⊢
      obtain ⟨W, hW, CW⟩ := C.wld
      obtain ⟨H0, rfl⟩ : ∃ H0, H = pw H0 (z + 1 + 1) W := ⟨H, hW.eq.symm⟩
      rw [eu, C.r0, C.s0, pw_gR0_2, pw_cV15, c_out CW Wf u k hu (by omega), bd_some]; rfl
    · rw [if_neg hi, if_neg hi, bX_r]; rfl
  · rw [if_neg hs, if_neg hs, bX_r]; rfl
theorem k_mounted {z : Nat} {H : jh} {b1 b2 : Nat} {Q Q2 : Nat → Option Nat} {I : Option Nat} {T TI : ta} {hi : Bool} {fl : Int32} {n : Nat} {tp : Nat → Int32} (C : CI z H b1 b2 Q Q2 I T hi TI fl n tp) (Wf : WFv T.1) (x y : Int32) : f_X12_mounted z x y H = cA H (qMounted T.1 x y) := by
  have hc := Wf.c2
  unfold f_X12_mounted qMounted
  rw [C.cvx, show f_X12_needSpace z 2 x H = _ from k_needS2 C Wf x]
  by_cases hs : isS T.1 12 x = true
  · rw [if_pos hs, if_pos hs, bX_l]
    obtain ⟨u, hu, rfl, eu⟩ := isS_t hc.2 hs
    rcases i_cases y 8 (by decide) with ⟨k, hk, rfl⟩ | ho
    · rw [cl_in hk (by decide), eu, if_pos hk]
      obtain ⟨W, hW, CW⟩ := C.wld
      obtain ⟨H0, rfl⟩ : ∃ H0, H = pw H0 (z + 1 + 1) W := ⟨H, hW.eq.symm⟩
      have e := CW.tg u k hu hk
      rw [show 8 * u + k = u * 8 + k by omega] at e
      rw [if_neg (by rw [al_neg (by omega)]; exact id), if_pos (show nI k < 8 by rw [show (8 : Int32) = nI 8 from rfl, al_lt (by omega) (by omega)]; exact hk), C.r0, C.s0, pw_gR0_3, pw_gR23_2, show nI u * 8 + nI k = nI (u * 8 + k) by rw [show (8 : Int32) = nI 8 from rfl, al_mul, al_add], cr24 _ _ _ _ _ (by omega), e, show 8 * u + k = u * 8 + k by omega]; rfl
    · rw [cl_out ho, if_neg (show ¬ 8 < 8 by decide)]
      by_cases h0 : y < 0
      · rw [if_pos h0]; rfl
      · rw [if_neg h0, if_neg (show ¬ y < 8 from Int32.not_lt.mpr (ho.resolve_left h0))]; rfl
  · rw [if_neg hs, if_neg hs, bX_r]; rfl
theorem k_range {z : Nat} {H : jh} {b1 b2 : Nat} {Q Q2 : Nat → Option Nat} {I : Option Nat} {T TI : ta} {hi : Bool} {fl : Int32} {n : Nat} {tp : Nat → Int32} (C : CI z H b1 b2 Q Q2 I T hi TI fl n tp) (Wf : WFv T.1) (x y a : Int32) : f_X12_range z x y a H = cA H (qRange T.1 x y a) := by
  have hc := Wf.c1
  unfold f_X12_range qRange
  rw [C.cvx, show f_X12_needSpace z 1 x H = _ from k_needS1 C Wf x]
  by_cases hs : isS T.1 11 x = true
  · rw [if_pos hs, if_pos hs, bX_l]
    obtain ⟨u, hu, rfl, eu⟩ := isS_t hc.2 hs
    have hk3 := Wf.uk u hu
    obtain ⟨W, hW, CW⟩ := C.wld
    obtain ⟨H0, rfl⟩ : ∃ H0, H = pw H0 (z + 1 + 1) W := ⟨H, hW.eq.symm⟩
    have ern : W 17 u = nI (T.1 60 u) := CW.rn u hu
    rw [eu, C.r0, C.s0, pw_gR0_2]
    rcases i_cases y 3 (by decide) with ⟨r, hr, rfl⟩ | ho
    · rw [cl_in hr (by decide), if_neg (by rw [al_neg (by omega)]; exact id), pw_gR15_2, cr17 _ _ _ _ _ (by omega), ern]
      by_cases hi : r < T.1 60 u
      · rw [if_pos (by rw [al_lt (by omega) (by omega)]; exact hi), if_pos hi]
        have e2 := CW.ri u r hu hi
        have e3 := CW.ro u r hu hi
        have e4 := CW.rm u r hu hi
        rw [show 3 * u + r = u * 3 + r by omega] at e2 e3 e4
        rw [show 3 * u + r = u * 3 + r by omega]
        rcases i_cases a 3 (by decide) with ⟨w, hw, rfl⟩ | hoa
        · rw [cl_in hw (by decide), if_pos hw]
          have hw' : w = 0 ∨ w = 1 ∨ w = 2 := by omega
          rcases hw' with rfl | rfl | rfl <;> simp (discharger := omega) only [↓al_m, ↓al_m2, al_lit, al_add, al_mul, bd_some, bn_0, bn_1, bn_jz, al_eq, if_true, if_false, not_true_eq_false, not_false_eq_true, Nat.reduceEqDiff, Nat.one_ne_zero, Nat.zero_ne_one, pw_gR15_3, pw_gR15_4, pw_gR15_5, cr18, cr19, cr20, e2, e3, e4] <;> rfl
        · rw [cl_out hoa, if_neg (show ¬ 3 < 3 by decide)]
          simp (discharger := omega) only [al_lit, i_no hoa (by decide), if_true, if_false, not_true_eq_false, not_false_eq_true, Nat.reduceEqDiff, Nat.one_ne_zero, Nat.zero_ne_one]
          rfl
      · rw [if_neg (by rw [al_lt (by omega) (by omega)]; exact hi), if_neg hi]; rfl
    · rw [cl_out ho, if_neg (show ¬ 3 < T.1 60 u by omega)]
      by_cases h0 : y < 0
      · rw [if_pos h0]; rfl
      · rw [if_neg h0, pw_gR15_2, cr17 _ _ _ _ _ (by omega), ern, if_neg]
        · rfl
        · intro h1
          have h2 := ho.resolve_left h0
          have h3 := Int32.lt_of_le_of_lt h2 h1
          rw [al_lt (by omega) (by omega)] at h3
          omega
  · rw [if_neg hs, if_neg hs, bX_r]; rfl
theorem k_may {z : Nat} {H : jh} {b1 b2 : Nat} {Q Q2 : Nat → Option Nat} {I : Option Nat} {T TI : ta} {hi : Bool} {fl : Int32} {n : Nat} {tp : Nat → Int32} (C : CI z H b1 b2 Q Q2 I T hi TI fl n tp) (Wf : WFv T.1) (M : SMv T.1) (x y a : Int32) : f_X12_may z x y a H = cA H (qMay T.1 x y a) := by
  have hc := Wf.c0
  have hc1 := Wf.c1
  unfold f_X12_may qMay
  rw [C.cvx, k_needP C]
  by_cases hp : isP T.1 x = true
  · rw [if_pos hp, if_pos hp, bX_l, C.cvx, k_needP C]
    by_cases hq : isP T.1 y = true
    · rw [if_pos hq, if_pos hq, bX_l]
      obtain ⟨p, hp16, rfl, e, hp1⟩ := isP_t hp
      obtain ⟨q, hq16, rfl, eq, hq1⟩ := isP_t hq
      have h2 := Wf.pr q hq16
      obtain ⟨W, hW, CW⟩ := C.wld
      obtain ⟨H0, rfl⟩ : ∃ H0, H = pw H0 (z + 1 + 1) W := ⟨H, hW.eq.symm⟩
      rw [e, eq, C.r0, C.s0]
      have e2 : W 2 q = nI (T.1 3 q) := CW.pa q 2 hq16 (by decide)
      have k1 := c_canKill (h := H0) (w := z + 1 + 1) CW Wf p q hp16 hp1 hq16
      have k2 := c_canEnter (h := H0) (w := z + 1 + 1) CW Wf M p q 1 hp16 hp1 hq16 (by decide)
      have k3 := c_canEnter (h := H0) (w := z + 1 + 1) CW Wf M p q 0 hp16 hp1 hq16 (by decide)
      have k4 := c_canEnter (h := H0) (w := z + 1 + 1) CW Wf M p q 2 hp16 hp1 hq16 (by decide)
      have k5 := c_rules (h := H0) (w := z + 1 + 1) CW Wf p (T.1 3 q) hp16 hp1 (by omega)
      rw [decide_eq_true hq1, Bool.true_and] at k1 k2 k3 k4
      rcases i_cases a 6 (by decide) with ⟨w, hw, rfl⟩ | ho
      · rw [cl_in hw (by decide)]
        unfold qMy
        have hw' : w = 0 ∨ w = 1 ∨ w = 2 ∨ w = 3 ∨ w = 4 ∨ w = 5 := by omega
        rcases hw' with rfl | rfl | rfl | rfl | rfl | rfl <;> simp (discharger := omega) only [↓al_m, ↓al_m2, al_lit, al_add, al_mul, bd_some, bn_0, bn_1, bn_jz, al_eq, if_true, if_false, not_true_eq_false, not_false_eq_true, Nat.reduceEqDiff, Nat.one_ne_zero, Nat.zero_ne_one, pw_cV0, pw_gR0_0, pw_gR1_2, cr2, e2, c_sees CW Wf, k1, k2, k3, k4, k5, c_bit] <;> rfl
      · rw [cl_out ho]
        unfold qMy
        simp (discharger := omega) only [al_lit, i_no ho (by decide), if_true, if_false, not_true_eq_false, not_false_eq_true, Nat.reduceEqDiff, Nat.one_ne_zero, Nat.zero_ne_one]
        rfl
    · rw [if_neg hq, if_neg hq, bX_r]; rfl
  · rw [if_neg hp, if_neg hp, bX_r]; rfl
theorem k_over {z : Nat} {H : jh} {b1 b2 : Nat} {Q Q2 : Nat → Option Nat} {I : Option Nat} {T TI : ta} {hi : Bool} {fl : Int32} {n : Nat} {tp : Nat → Int32} (C : CI z H b1 b2 Q Q2 I T hi TI fl n tp) (Wf : WFv T.1) (x y : Int32) : f_X12_over z x y H = cA H (qOver T.1 x y) := by
  have hc1 := Wf.c1
  unfold f_X12_over qOver
  rw [C.cvx, k_needP C]
  by_cases hp : isP T.1 x = true
  · rw [if_pos hp, if_pos hp, bX_l, C.cvx, show f_X12_needSpace z 1 y H = _ from k_needS1 C Wf y]
    by_cases hs : isS T.1 11 y = true
    · rw [if_pos hs, if_pos hs, bX_l]
      obtain ⟨p, hp16, rfl, e, hp1⟩ := isP_t hp
      obtain ⟨u, hu, rfl, eu⟩ := isS_t hc1.2 hs
      obtain ⟨W, hW, CW⟩ := C.wld
      obtain ⟨H0, rfl⟩ : ∃ H0, H = pw H0 (z + 1 + 1) W := ⟨H, hW.eq.symm⟩
      rw [e, eu, C.r0, C.s0, pw_cV0, c_rules CW Wf p u hp16 hp1 hu, bd_some, c_bit, bd_some]; rfl
    · rw [if_neg hs, if_neg hs, bX_r]; rfl
  · rw [if_neg hp, if_neg hp, bX_r]; rfl
theorem k_shared {z : Nat} {H : jh} {b1 b2 : Nat} {Q Q2 : Nat → Option Nat} {I : Option Nat} {T TI : ta} {hi : Bool} {fl : Int32} {n : Nat} {tp : Nat → Int32} (C : CI z H b1 b2 Q Q2 I T hi TI fl n tp) (Wf : WFv T.1) (x y : Int32) : f_X12_shared z x y H = cA H (qShared T.1 x y) := by
  have hc1 := Wf.c1
  unfold f_X12_shared qShared
  rw [C.cvx, show f_X12_needSpace z 1 x H = _ from k_needS1 C Wf x]
  by_cases hs : isS T.1 11 x = true
  · rw [if_pos hs, if_pos hs, bX_l, C.cvx, show f_X12_needSpace z 1 y H = _ from k_needS1 C Wf y]
    by_cases ht : isS T.1 11 y = true
    · rw [if_pos ht, if_pos ht, bX_l]
      obtain ⟨u, hu, rfl, eu⟩ := isS_t hc1.2 hs
      obtain ⟨o, ho, rfl, eo⟩ := isS_t hc1.2 ht
      obtain ⟨f, hf⟩ := jfu_s
      obtain ⟨W, hW, CW⟩ := C.wld
      obtain ⟨H0, rfl⟩ : ∃ H0, H = pw H0 (z + 1 + 1) W := ⟨H, hW.eq.symm⟩
      have := c_shared_l (h := H0) (w := z + 1 + 1) CW Wf u o hu ho (jlp5 (f_X12_shared_h29 (fun y14 h13 => some (.inl y14, h13)))) (fun _ => rfl) 100 0 0 jfu (by omega) (by omega)
      rw [Nat.zero_add] at this
      rw [eu, eo, C.r0, C.s0, pw_gR0_2]
      exact this
    · rw [if_neg ht, if_neg ht, bX_r]; rfl
  · rw [if_neg hs, if_neg hs, bX_r]; rfl
theorem k_space {z : Nat} {H : jh} {b1 b2 : Nat} {Q Q2 : Nat → Option Nat} {I : Option Nat} {T TI : ta} {hi : Bool} {fl : Int32} {n : Nat} {tp : Nat → Int32} (C : CI z H b1 b2 Q Q2 I T hi TI fl n tp) (Wf : WFv T.1) (kd x a : Int32) : f_X12_space z kd x a H = cA H (qSpace T.1 kd x a) := by
  have hc0 := Wf.c0
  have hc1 := Wf.c1
  have hc2 := Wf.c2
  obtain ⟨W, hW, CW⟩ := C.wld
  obtain ⟨H0, rfl⟩ : ∃ H0, H = pw H0 (z + 1 + 1) W := ⟨H, hW.eq.symm⟩
  unfold f_X12_space qSpace
  rw [C.r0, C.s0, pw_cV0]
  rcases i_cases kd 3 (by decide) with ⟨k, hk, rfl⟩ | hok
  · rw [cl_in hk (by decide), if_pos hk]
    have hk' : k = 0 ∨ k = 1 ∨ k = 2 := by omega
    have out : ∀ k y, (a < 0 ∨ nI 7 ≤ a) → qSp T.1 k y (cl a 7) = (1, nI 0) := by
      intro k y ho
      rw [cl_out ho]
      unfold qSp
      simp only [if_true, if_false, not_true_eq_false, not_false_eq_true, Nat.reduceEqDiff, Nat.one_ne_zero, Nat.zero_ne_one]
    rcases hk' with rfl | rfl | rfl
    · rw [c_tree0, bd_some, nq_some, pw_cV10, c_isS0 CW Wf, bd_some]
      show _ = cA _ (if isS T.1 10 x = true then _ else _)
      by_cases hs : isS T.1 10 x = true
      · obtain ⟨y, hy, rfl, ey⟩ := isS_t hc0.2 hs
        have e11 : W 11 y = nI (T.1 40 y) := CW.nk y hy
        rw [hs, if_pos (show ¬ bn true = 0 by decide), if_pos rfl, ey]
        rcases i_cases a 7 (by decide) with ⟨w, hw, rfl⟩ | ho
        · rw [cl_in hw (by decide)]
          unfold qSp f_X11_keeperOf f_X11_contentOf
          have hw' : w = 0 ∨ w = 1 ∨ w = 2 ∨ w = 3 ∨ w = 4 ∨ w = 5 ∨ w = 6 := by omega
          rcases hw' with rfl | rfl | rfl | rfl | rfl | rfl | rfl <;> simp (discharger := omega) only [↓al_m, ↓al_m2, al_lit, al_add, al_mul, bd_some, bn_0, bn_1, bn_jz, al_eq, if_true, if_false, not_true_eq_false, not_false_eq_true, Nat.reduceEqDiff, Nat.one_ne_zero, Nat.zero_ne_one, C.r0, C.s0, pw_cV0, pw_cV1, pw_cV9, pw_cV10, pw_gR0_0, pw_gR0_1, pw_gR9_1, cr11, e11, c_around0 CW Wf, c_depth0 CW Wf, c_hmi CW Wf, c_livingInit CW Wf, Nat.add_zero] <;> rfl
        · rw [out 0 y ho]
          simp (discharger := omega) only [al_lit, i_no ho (by decide), if_true, if_false, not_true_eq_false, not_false_eq_true, Nat.reduceEqDiff, Nat.one_ne_zero, Nat.zero_ne_one]
          rfl
      · have hs : isS T.1 10 x = false := by simpa using hs
        rw [hs, if_neg (show ¬ ¬ bn false = 0 by decide), if_neg (by decide)]; rfl
    · rw [c_tree1, bd_some, nq_some, pw_cV16, c_isS1 CW Wf, bd_some]
      show _ = cA _ (if isS T.1 11 x = true then _ else _)
      by_cases hs : isS T.1 11 x = true
      · obtain ⟨y, hy, rfl, ey⟩ := isS_t hc1.2 hs
        have e16 : W 16 y = nI (T.1 41 y) := CW.uk y hy
        have e17 : W 17 y = nI (T.1 60 y) := CW.rn y hy
        rw [hs, if_pos (show ¬ bn true = 0 by decide), if_pos rfl, ey]
        rcases i_cases a 7 (by decide) with ⟨w, hw, rfl⟩ | ho
        · rw [cl_in hw (by decide)]
          unfold qSp f_X11_keeperOf f_X11_contentOf
          have hw' : w = 0 ∨ w = 1 ∨ w = 2 ∨ w = 3 ∨ w = 4 ∨ w = 5 ∨ w = 6 := by omega
          rcases hw' with rfl | rfl | rfl | rfl | rfl | rfl | rfl <;> simp (discharger := omega) only [↓al_m, ↓al_m2, al_lit, al_add, al_mul, bd_some, bn_0, bn_1, bn_jz, al_eq, if_true, if_false, not_true_eq_false, not_false_eq_true, Nat.reduceEqDiff, Nat.one_ne_zero, Nat.zero_ne_one, C.r0, C.s0, pw_cV0, pw_cV1, pw_cV16, pw_gR0_0, pw_gR0_2, pw_gR15_1, pw_gR15_2, cr16, cr17, e16, e17, c_around1 CW Wf, c_depth1 CW Wf, c_hmi CW Wf, Nat.reduceAdd] <;> rfl
        · rw [out 1 y ho]
          simp (discharger := omega) only [al_lit, i_no ho (by decide), if_true, if_false, not_true_eq_false, not_false_eq_true, Nat.reduceEqDiff, Nat.one_ne_zero, Nat.zero_ne_one]
          rfl
      · have hs : isS T.1 11 x = false := by simpa using hs
        rw [hs, if_neg (show ¬ ¬ bn false = 0 by decide), if_neg (by decide)]; rfl
    · rw [c_tree2, bd_some, nq_some, pw_cV24, c_isS2 CW Wf, bd_some]
      show _ = cA _ (if isS T.1 12 x = true then _ else _)
      by_cases hs : isS T.1 12 x = true
      · obtain ⟨y, hy, rfl, ey⟩ := isS_t hc2.2 hs
        have e23 : W 23 y = nI (T.1 42 y) := CW.mk y hy
        have h70 := (Wf.mk y hy).2
        have h7 : bn (decide (T.1 70 y = 1)) = nI (T.1 70 y) := by
          have h8 : T.1 70 y = 0 ∨ T.1 70 y = 1 := by omega
          rcases h8 with h8 | h8 <;> simp [h8, bn]
        have kb : ∀ h, f_X12_bit (nI (T.1 70 y)) h = some (nI (T.1 70 y), h) := fun h => by rw [← h7]; exact c_bit _ h
        rw [hs, if_pos (show ¬ bn true = 0 by decide), if_pos rfl, ey]
        rcases i_cases a 7 (by decide) with ⟨w, hw, rfl⟩ | ho
        · rw [cl_in hw (by decide)]
          unfold qSp f_X11_keeperOf f_X11_contentOf
          have hw' : w = 0 ∨ w = 1 ∨ w = 2 ∨ w = 3 ∨ w = 4 ∨ w = 5 ∨ w = 6 := by omega
          rcases hw' with rfl | rfl | rfl | rfl | rfl | rfl | rfl <;> simp (discharger := omega) only [↓al_m, ↓al_m2, al_lit, al_add, al_mul, bd_some, bn_0, bn_1, bn_jz, al_eq, if_true, if_false, not_true_eq_false, not_false_eq_true, Nat.reduceEqDiff, Nat.one_ne_zero, Nat.zero_ne_one, C.r0, C.s0, pw_cV0, pw_cV1, pw_cV23, pw_cV24, pw_gR0_0, pw_gR0_3, pw_gR23_1, cr23, e23, c_around2 CW Wf, c_depth2 CW Wf, c_hmi CW Wf, c_piu CW Wf, c_isShared CW Wf, c_spread CW Wf, c_bit, h7, kb, Nat.reduceAdd] <;> rfl
        · rw [out 2 y ho]
          simp (discharger := omega) only [al_lit, i_no ho (by decide), if_true, if_false, not_true_eq_false, not_false_eq_true, Nat.reduceEqDiff, Nat.one_ne_zero, Nat.zero_ne_one]
          rfl
      · have hs : isS T.1 12 x = false := by simpa using hs
        rw [hs, if_neg (show ¬ ¬ bn false = 0 by decide), if_neg (by decide)]; rfl
  · rw [cl_out hok, c_treeX kd hok, bd_some, nq_none, if_neg (show ¬ 3 < 3 by decide)]; rfl
