/-! the reference's questions by call -/
theorem bn_if (b : Bool) (h : jh) : (if bn b = nI 0 then some (nI 0, h) else some (nI 1, h)) = some (bn b, h) := by cases b <;> rfl
theorem r_process {h : jh} {m : Nat} {s : ms} {v : vw} (R : RowV (s 2) v) (W : WFv v) (x a : Int32) : rA h m s (f_X13_process m x a (pm h m s)) (qProcess v x a) := by
  unfold f_X13_process
  refine ra_in fun s1 h0 e1 _ => ?_
  have R1 : RowV (s1 2) v := by rw [e1]; exact R
  rw [pm_cV, t_isP R1 W, bd_some]
  unfold qProcess
  by_cases hp : isP v x = true
  · obtain ⟨p, hp16, rfl, e, hp1⟩ := isP_t hp
    have hc := W.c0
    have h2 := W.pr p hp16
    rw [hp, if_pos (show ¬ bn true = 0 by decide), if_pos rfl, e]
    obtain ⟨w17, e17⟩ := t_fromRoot (h := h) (m := m) R1 W (v 3 p) (v 6 p) (by omega) (by omega)
    rcases i_cases a 10 (by decide) with ⟨w, hw, rfl⟩ | ho
    · rw [cl_in hw (by decide)]
      unfold qPr f_X13_process_b76
      have hw' : w = 0 ∨ w = 1 ∨ w = 2 ∨ w = 3 ∨ w = 4 ∨ w = 5 ∨ w = 6 ∨ w = 7 ∨ w = 8 ∨ w = 9 := by omega
      rcases hw' with rfl | rfl | rfl | rfl | rfl | rfl | rfl | rfl | rfl | rfl <;> simp (discharger := omega) only [↓al_m, al_lit, al_add, al_mul, bd_some, pm_cV, pm_gR2, bn_0, bn_1, bn_jz, v_of R1, v_nm R1, v_ct0 R1, v_ct1 R1, v_ct2 R1, v_ar0 R1 W, v_ar1 R1 W, v_ar2 R1 W, v_dp0 R1 W, v_dp1 R1 W, v_dp2 R1 W, v_kp0 R1 W, v_kp1 R1 W, v_kp2 R1 W, v_gv R1 W, v_bg R1 W, v_rn R1 W, v_sh R1 W, al_eq, e17, t_isInit R1 W, bn_if, if_true, if_false, not_true_eq_false, not_false_eq_true, Nat.reduceEqDiff, Nat.one_ne_zero, Nat.zero_ne_one] <;> first | exact ra_ok h0 _ | exact ra_sw h0 _ 17 _ (by decide) | (cases isIni v p <;> exact ra_ok h0 _)
    · rw [cl_out ho]
      unfold qPr
      simp (discharger := omega) only [al_lit, i_no ho (by decide), if_true, if_false, not_true_eq_false, not_false_eq_true, Nat.reduceEqDiff, Nat.one_ne_zero, Nat.zero_ne_one]
      exact ra_fail 1
  · have hp : isP v x = false := by simpa using hp
    rw [hp, if_neg (show ¬ ¬ bn false = 0 by decide), if_neg (by decide)]
    exact ra_fail 1
theorem r_count {h : jh} {m : Nat} {s : ms} {T : ta} {n : Nat} (R : RowV (s 2) T.1) (W : WFv T.1) (e18 : s 18 0 = nI T.2.1) (e22 : s 22 0 = nI T.2.2.2.1) (e5 : s 5 0 = nI n) (e3 : ∀ j, j < 3 → s 3 j = T.2.2.2.2 3 j) (a : Int32) : rA h m s (f_X13_count m a (pm h m s)) (qCount T n (cl a 13)) := by
  unfold f_X13_count
  refine ra_in fun s1 h0 e1 ee => ?_
  have R1 : RowV (s1 2) T.1 := by rw [e1]; exact R
  have f18 : s1 18 0 = nI T.2.1 := by rw [ee 18 (by decide)]; exact e18
  have f22 : s1 22 0 = nI T.2.2.2.1 := by rw [ee 22 (by decide)]; exact e22
  have f5 : s1 5 0 = nI n := by rw [ee 5 (by decide)]; exact e5
  have f30 : s1 3 0 = T.2.2.2.2 3 0 := by rw [ee 3 (by decide)]; exact e3 0 (by decide)
  have f31 : s1 3 1 = T.2.2.2.2 3 1 := by rw [ee 3 (by decide)]; exact e3 1 (by decide)
  have f32 : s1 3 2 = T.2.2.2.2 3 2 := by rw [ee 3 (by decide)]; exact e3 2 (by decide)
  rcases i_cases a 13 (by decide) with ⟨w, hw, rfl⟩ | ho
  · rw [cl_in hw (by decide)]
    unfold qCount f_X13_count_b85 f_X13_count_b118
    have hw' : w = 0 ∨ w = 1 ∨ w = 2 ∨ w = 3 ∨ w = 4 ∨ w = 5 ∨ w = 6 ∨ w = 7 ∨ w = 8 ∨ w = 9 ∨ w = 10 ∨ w = 11 ∨ w = 12 := by omega
    rcases hw' with rfl | rfl | rfl | rfl | rfl | rfl | rfl | rfl | rfl | rfl | rfl | rfl | rfl <;> simp (discharger := omega) only [↓al_m, al_lit, al_add, al_mul, bd_some, pm_cV, pm_gR2, bn_0, bn_1, bn_jz, v_of R1, v_nm R1, v_ct0 R1, v_ct1 R1, v_ct2 R1, v_ar0 R1 W, v_ar1 R1 W, v_ar2 R1 W, v_dp0 R1 W, v_dp1 R1 W, v_dp2 R1 W, v_kp0 R1 W, v_kp1 R1 W, v_kp2 R1 W, v_gv R1 W, v_bg R1 W, v_rn R1 W, v_sh R1 W, al_eq, al_sub, t_thereB R1 W, t_powerB R1 W, t_deadB R1 W, bct_e, pm_gI18, pm_gI22, pm_gI5, pm_gR3, rd3, f18, f22, f5, f30, f31, f32, Nat.reduceSub, if_true, if_false, not_true_eq_false, not_false_eq_true, Nat.reduceEqDiff, Nat.one_ne_zero, Nat.zero_ne_one] <;> exact ra_ok h0 _
  · rw [cl_out ho]
    unfold qCount
    simp (discharger := omega) only [al_lit, i_no ho (by decide), if_true, if_false, not_true_eq_false, not_false_eq_true, Nat.reduceEqDiff, Nat.one_ne_zero, Nat.zero_ne_one]
    exact ra_fail 1
theorem r_space {h : jh} {m : Nat} {s : ms} {v : vw} (R : RowV (s 2) v) (W : WFv v) (kd x a : Int32) : rA h m s (f_X13_space m kd x a (pm h m s)) (qSpace v kd x a) := by
  have hc0 := W.c0
  have hc1 := W.c1
  have hc2 := W.c2
  unfold f_X13_space
  refine ra_in fun s1 h0 e1 _ => ?_
  have R1 : RowV (s1 2) v := by rw [e1]; exact R
  rw [r_isIn, show decide ((0 : Int32) ≤ kd ∧ kd ≤ 2) = decide (cl kd 3 < 3) from in_cl kd 2 3 rfl (by decide), bd_some]
  unfold qSpace
  rcases i_cases kd 3 (by decide) with ⟨k, hk, rfl⟩ | hok
  · rw [cl_in hk (by decide), decide_eq_true hk, if_neg (show ¬ bn true = 0 by decide), if_pos hk, pm_cV]
    have hk' : k = 0 ∨ k = 1 ∨ k = 2 := by omega
    have fin : ∀ (a10 : Nat), v a10 0 ≤ 8 → (a10 = 10 + k) → f_X13_isSpace m (nI k) x (pm h m s1) = some (bn (isS v a10 x), pm h m s1) → (∀ y, y < v a10 0 → x = nI y → rA h m s1 (if a = 0 then f_X13_space_b72 m (nI k) x a (pm h m s1) else if a = 1 then f_X13_space_b72 m (nI k) x a (pm h m s1) else if a = 2 then f_X13_space_b72 m (nI k) x a (pm h m s1) else if a = 3 then cV (pm h m s1) m 11 (f_X13_inSpace m (nI k) x (pm h m s1)) fun v33 h34 => some (v33, h34) else if a = 4 then (if ¬ nI k = 0 then (if ¬ nI k = 1 then cV (pm h m s1) m 11 (f_X13_things m x (pm h m s1)) fun v27 h28 => some (v27, h28) else cV (pm h m s1) m 11 (f_X13_spaceOf m (nI k) x 3 (pm h m s1)) fun v29 h30 => some (v29, h30)) else cV (pm h m s1) m 11 (f_X13_initOf m x (pm h m s1)) fun v31 h32 => some (v31, h32)) else if a = 5 then (if ¬ nI k = 2 then some (0, pm h m s1) else cV (pm h m s1) m 11 (f_X13_spaceOf m (nI k) x 3 (pm h m s1)) fun v23 h24 => some (v23, h24)) else if a = 6 then (if ¬ nI k = 2 then some (0, pm h m s1) else cV (pm h m s1) m 11 (f_X13_spreads m x (pm h m s1)) fun v20 h21 => some (v20, h21)) else cV (pm h m s1) m 11 (f_X13_fail m 1 (pm h m s1)) fun v17 h18 => some (v17, h18)) (qSp v k y (cl a 7))) →
        rA h m s1 (bd (f_X13_isSpace m (nI k) x (pm h m s1)) fun v7 h8 => if ¬ v7 = 0 then (if a = 0 then f_X13_space_b72 m (nI k) x a h8 else if a = 1 then f_X13_space_b72 m (nI k) x a h8 else if a = 2 then f_X13_space_b72 m (nI k) x a h8 else if a = 3 then cV h8 m 11 (f_X13_inSpace m (nI k) x h8) fun v33 h34 => some (v33, h34) else if a = 4 then (if ¬ nI k = 0 then (if ¬ nI k = 1 then cV h8 m 11 (f_X13_things m x h8) fun v27 h28 => some (v27, h28) else cV h8 m 11 (f_X13_spaceOf m (nI k) x 3 h8) fun v29 h30 => some (v29, h30)) else cV h8 m 11 (f_X13_initOf m x h8) fun v31 h32 => some (v31, h32)) else if a = 5 then (if ¬ nI k = 2 then some (0, h8) else cV h8 m 11 (f_X13_spaceOf m (nI k) x 3 h8) fun v23 h24 => some (v23, h24)) else if a = 6 then (if ¬ nI k = 2 then some (0, h8) else cV h8 m 11 (f_X13_spreads m x h8) fun v20 h21 => some (v20, h21)) else cV h8 m 11 (f_X13_fail m 1 h8) fun v17 h18 => some (v17, h18)) else f_X13_space_b23 m h8) (if isS v (10 + k) x = true then qSp v k (cl x 8) (cl a 7) else (1, nI 0)) := by
      intro a10 hc ea es hin
      rw [es, bd_some, ← ea]
      by_cases hs : isS v a10 x = true
      · obtain ⟨y, hy, e, ey⟩ := isS_t hc hs
        rw [hs, if_pos (show ¬ bn true = 0 by decide), if_pos rfl, ey]
        exact hin y hy e
      · have hs : isS v a10 x = false := by simpa using hs
        rw [hs, if_neg (show ¬ ¬ bn false = 0 by decide), if_neg (by decide)]
        exact ra_fail 1
    have out : ∀ k y, (a < 0 ∨ nI 7 ≤ a) → qSp v k y (cl a 7) = (1, nI 0) := by
      intro k y ho
      rw [cl_out ho]
      unfold qSp
      simp only [if_true, if_false, not_true_eq_false, not_false_eq_true, Nat.reduceEqDiff, Nat.one_ne_zero, Nat.zero_ne_one]
    rcases hk' with rfl | rfl | rfl
    · refine fin 10 hc0.2 rfl (t_isS0 R1 W x) ?_
      rintro y hy rfl
      rcases i_cases a 7 (by decide) with ⟨w, hw, rfl⟩ | ho
      · rw [cl_in hw (by decide)]
        unfold qSp f_X13_space_b72
        have hw' : w = 0 ∨ w = 1 ∨ w = 2 ∨ w = 3 ∨ w = 4 ∨ w = 5 ∨ w = 6 := by omega
        rcases hw' with rfl | rfl | rfl | rfl | rfl | rfl | rfl <;> simp (discharger := omega) only [↓al_m, al_lit, al_add, al_mul, bd_some, pm_cV, pm_gR2, bn_0, bn_1, bn_jz, v_of R1, v_nm R1, v_ct0 R1, v_ct1 R1, v_ct2 R1, v_ar0 R1 W, v_ar1 R1 W, v_ar2 R1 W, v_dp0 R1 W, v_dp1 R1 W, v_dp2 R1 W, v_kp0 R1 W, v_kp1 R1 W, v_kp2 R1 W, v_gv R1 W, v_bg R1 W, v_rn R1 W, v_sh R1 W, al_eq, t_inSp R1 W, t_initOf R1 W, if_true, if_false, not_true_eq_false, not_false_eq_true, Nat.reduceEqDiff, Nat.one_ne_zero, Nat.zero_ne_one, Nat.add_zero] <;> exact ra_ok h0 _
      · rw [out 0 y ho]
        simp (discharger := omega) only [al_lit, i_no ho (by decide), if_true, if_false, not_true_eq_false, not_false_eq_true, Nat.reduceEqDiff, Nat.one_ne_zero, Nat.zero_ne_one]
        exact ra_fail 1
    · refine fin 11 hc1.2 rfl (t_isS1 R1 W x) ?_
      rintro y hy rfl
      rcases i_cases a 7 (by decide) with ⟨w, hw, rfl⟩ | ho
      · rw [cl_in hw (by decide)]
        unfold qSp f_X13_space_b72
        have hw' : w = 0 ∨ w = 1 ∨ w = 2 ∨ w = 3 ∨ w = 4 ∨ w = 5 ∨ w = 6 := by omega
        rcases hw' with rfl | rfl | rfl | rfl | rfl | rfl | rfl <;> simp (discharger := omega) only [↓al_m, al_lit, al_add, al_mul, bd_some, pm_cV, pm_gR2, bn_0, bn_1, bn_jz, v_of R1, v_nm R1, v_ct0 R1, v_ct1 R1, v_ct2 R1, v_ar0 R1 W, v_ar1 R1 W, v_ar2 R1 W, v_dp0 R1 W, v_dp1 R1 W, v_dp2 R1 W, v_kp0 R1 W, v_kp1 R1 W, v_kp2 R1 W, v_gv R1 W, v_bg R1 W, v_rn R1 W, v_sh R1 W, al_eq, t_inSp R1 W, if_true, if_false, not_true_eq_false, not_false_eq_true, Nat.reduceEqDiff, Nat.one_ne_zero, Nat.zero_ne_one, Nat.reduceAdd] <;> exact ra_ok h0 _
      · rw [out 1 y ho]
        simp (discharger := omega) only [al_lit, i_no ho (by decide), if_true, if_false, not_true_eq_false, not_false_eq_true, Nat.reduceEqDiff, Nat.one_ne_zero, Nat.zero_ne_one]
        exact ra_fail 1
    · refine fin 12 hc2.2 rfl (t_isS2 R1 W x) ?_
      rintro y hy rfl
      rcases i_cases a 7 (by decide) with ⟨w, hw, rfl⟩ | ho
      · rw [cl_in hw (by decide)]
        unfold qSp f_X13_space_b72
        have hw' : w = 0 ∨ w = 1 ∨ w = 2 ∨ w = 3 ∨ w = 4 ∨ w = 5 ∨ w = 6 := by omega
        rcases hw' with rfl | rfl | rfl | rfl | rfl | rfl | rfl <;> simp (discharger := omega) only [↓al_m, al_lit, al_add, al_mul, bd_some, pm_cV, pm_gR2, bn_0, bn_1, bn_jz, v_of R1, v_nm R1, v_ct0 R1, v_ct1 R1, v_ct2 R1, v_ar0 R1 W, v_ar1 R1 W, v_ar2 R1 W, v_dp0 R1 W, v_dp1 R1 W, v_dp2 R1 W, v_kp0 R1 W, v_kp1 R1 W, v_kp2 R1 W, v_gv R1 W, v_bg R1 W, v_rn R1 W, v_sh R1 W, al_eq, t_inSp R1 W, t_things R1 W, t_spreads R1 W, if_true, if_false, not_true_eq_false, not_false_eq_true, Nat.reduceEqDiff, Nat.one_ne_zero, Nat.zero_ne_one, Nat.reduceAdd] <;> exact ra_ok h0 _
      · rw [out 2 y ho]
        simp (discharger := omega) only [al_lit, i_no ho (by decide), if_true, if_false, not_true_eq_false, not_false_eq_true, Nat.reduceEqDiff, Nat.one_ne_zero, Nat.zero_ne_one]
        exact ra_fail 1
  · rw [cl_out hok, show decide (3 < 3) = false from rfl, if_pos (show bn false = 0 by decide), if_neg (by decide)]
    exact ra_fail 1
theorem r_number {h : jh} {m : Nat} {s : ms} {v : vw} (R : RowV (s 2) v) (W : WFv v) (x y : Int32) : rA h m s (f_X13_number m x y (pm h m s)) (qNumber v x y) := by
  have hc := W.c0
  unfold f_X13_number
  refine ra_in fun s1 h0 e1 _ => ?_
  have R1 : RowV (s1 2) v := by rw [e1]; exact R
  rw [pm_cV, t_isP R1 W, bd_some]
  unfold qNumber
  by_cases hp : isP v x = true
  · obtain ⟨p, hp16, rfl, e, hp1⟩ := isP_t hp
    rw [hp, if_neg (show ¬ bn true = 0 by decide), if_pos rfl, e, pm_cV, show f_X13_isSpace m 0 y (pm h m s1) = _ from t_isS0 R1 W y, bd_some]
    by_cases hs : isS v 10 y = true
    · obtain ⟨u, hu, rfl, eu⟩ := isS_t hc.2 hs
      have hn := W.nm p u hp16 (by omega)
      rw [hs, if_pos (show ¬ bn true = 0 by decide), if_pos rfl, eu, pm_cV, v_nm R1 p u hp16 (by omega), bd_some]
      by_cases h1 : v 8 (8 * p + u) = 0
      · rw [h1, if_neg (show ¬ ¬ nI 0 = 0 by decide), if_pos rfl]; exact ra_ok h0 _
      · rw [if_pos (show ¬ nI (v 8 (8 * p + u)) = 0 by rw [show (0 : Int32) = nI 0 from rfl, al_eq (by omega) (by omega)]; exact h1), if_neg h1]; exact ra_ok h0 _
    · have hs : isS v 10 y = false := by simpa using hs
      rw [hs, if_neg (show ¬ ¬ bn false = 0 by decide), if_neg (by decide)]
      exact ra_fail 1
  · have hp : isP v x = false := by simpa using hp
    rw [hp, if_pos (show bn false = 0 by decide), if_neg (by decide)]
    exact ra_fail 1
theorem r_listed {h : jh} {m : Nat} {s : ms} {v : vw} (R : RowV (s 2) v) (W : WFv v) (x y : Int32) : rA h m s (f_X13_listed m x y (pm h m s)) (qListed v x y) := by
  have hc := W.c0
  unfold f_X13_listed
  refine ra_in fun s1 h0 e1 _ => ?_
  have R1 : RowV (s1 2) v := by rw [e1]; exact R
  rw [pm_cV, show f_X13_isSpace m 0 x (pm h m s1) = _ from t_isS0 R1 W x, bd_some]
  unfold qListed
  by_cases hs : isS v 10 x = true
  · obtain ⟨u, hu, rfl, eu⟩ := isS_t hc.2 hs
    rw [hs, if_pos (show ¬ bn true = 0 by decide), if_pos rfl, eu]
    obtain ⟨f, hf⟩ := jfu_s
    exact t_listed_l R1 W h0 u y hu _ (fun _ => rfl) 20 1 0 jfu (by omega) (by omega)
  · have hs : isS v 10 x = false := by simpa using hs
    rw [hs, if_neg (show ¬ ¬ bn false = 0 by decide), if_neg (by decide)]
    exact ra_fail 1
theorem r_inside {h : jh} {m : Nat} {s : ms} {v : vw} (R : RowV (s 2) v) (W : WFv v) (x y : Int32) : rA h m s (f_X13_inside m x y (pm h m s)) (qInside v x y) := by
  have hc := W.c1
  unfold f_X13_inside
  refine ra_in fun s1 h0 e1 _ => ?_
  have R1 : RowV (s1 2) v := by rw [e1]; exact R
  rw [pm_cV, show f_X13_isSpace m 1 x (pm h m s1) = _ from t_isS1 R1 W x, bd_some]
  unfold qInside
  by_cases hs : isS v 11 x = true
  · obtain ⟨u, hu, rfl, eu⟩ := isS_t hc.2 hs
    rw [hs, if_pos (show ¬ bn true = 0 by decide), if_pos rfl, eu, r_isIn, show decide ((0 : Int32) ≤ y ∧ y ≤ 99) = decide (cl y 100 < 100) from in_cl y 99 100 rfl (by decide), bd_some]
    rcases i_cases y 100 (by decide) with ⟨k, hk, rfl⟩ | hok
    · rw [cl_in hk (by decide), decide_eq_true hk, if_neg (show ¬ bn true = 0 by decide), if_pos hk, pm_cV]
      obtain ⟨w17, e17⟩ := t_fromRoot (h := h) (m := m) R1 W u k hu (by omega)
      rw [e17, bd_some]
      exact ra_sw h0 _ 17 _ (by decide)
    · rw [cl_out hok, show decide (100 < 100) = false from rfl, if_pos (show bn false = 0 by decide), if_neg (by decide)]
      exact ra_fail 2
  · have hs : isS v 11 x = false := by simpa using hs
    rw [hs, if_neg (show ¬ ¬ bn false = 0 by decide), if_neg (by decide)]
    exact ra_fail 1
theorem r_outside {h : jh} {m : Nat} {s : ms} {v : vw} (R : RowV (s 2) v) (W : WFv v) (x y : Int32) : rA h m s (f_X13_outside m x y (pm h m s)) (qOutside v x y) := by
  have hc := W.c1
  unfold f_X13_outside
  refine ra_in fun s1 h0 e1 _ => ?_
  have R1 : RowV (s1 2) v := by rw [e1]; exact R
  rw [pm_cV, show f_X13_isSpace m 1 x (pm h m s1) = _ from t_isS1 R1 W x, bd_some]
  unfold qOutside
  by_cases hs : isS v 11 x = true
  · obtain ⟨u, hu, rfl, eu⟩ := isS_t hc.2 hs
    rw [hs, if_pos (show ¬ bn true = 0 by decide), if_pos rfl, eu, r_isIn, show decide ((0 : Int32) ≤ y ∧ y ≤ 99) = decide (cl y 100 < 100) from in_cl y 99 100 rfl (by decide), bd_some]
    rcases i_cases y 100 (by decide) with ⟨k, hk, rfl⟩ | hok
    · rw [cl_in hk (by decide), decide_eq_true hk, if_neg (show ¬ bn true = 0 by decide), if_pos hk, pm_cV, t_toRoot R1 W u k hu (by omega), bd_some]
      exact ra_ok h0 _
    · rw [cl_out hok, show decide (100 < 100) = false from rfl, if_pos (show bn false = 0 by decide), if_neg (by decide)]
      exact ra_fail 2
  · have hs : isS v 11 x = false := by simpa using hs
    rw [hs, if_neg (show ¬ ¬ bn false = 0 by decide), if_neg (by decide)]
    exact ra_fail 1
theorem r_mounted {h : jh} {m : Nat} {s : ms} {v : vw} (R : RowV (s 2) v) (W : WFv v) (x y : Int32) : rA h m s (f_X13_mounted m x y (pm h m s)) (qMounted v x y) := by
  have hc := W.c2
  unfold f_X13_mounted
  refine ra_in fun s1 h0 e1 _ => ?_
  have R1 : RowV (s1 2) v := by rw [e1]; exact R
  rw [pm_cV, show f_X13_isSpace m 2 x (pm h m s1) = _ from t_isS2 R1 W x, bd_some]
  unfold qMounted
  by_cases hs : isS v 12 x = true
  · obtain ⟨u, hu, rfl, eu⟩ := isS_t hc.2 hs
    rw [hs, if_neg (show ¬ bn true = 0 by decide), if_pos rfl, eu, r_isIn, show decide ((0 : Int32) ≤ y ∧ y ≤ 7) = decide (cl y 8 < 8) from in_cl y 7 8 rfl (by decide), bd_some]
    rcases i_cases y 8 (by decide) with ⟨k, hk, rfl⟩ | hok
    · rw [cl_in hk (by decide), decide_eq_true hk, if_neg (show ¬ bn true = 0 by decide), if_pos hk, pm_cV, show (4 : Int32) + nI k = nI (4 + k) from al_add 4 k, show f_X13_spaceOf m 2 (nI u) (nI (4 + k)) (pm h m s1) = _ from v_tg R1 W u k hu hk, bd_some]
      exact ra_ok h0 _
    · rw [cl_out hok, show decide (8 < 8) = false from rfl, if_pos (show bn false = 0 by decide), if_neg (by decide)]
      exact ra_fail 1
  · have hs : isS v 12 x = false := by simpa using hs
    rw [hs, if_pos (show bn false = 0 by decide), if_neg (by decide)]
    exact ra_fail 1
theorem in_sub (x : Int32) (M : Nat) (hM : M ≤ 3) : decide (nI 0 ≤ x ∧ x ≤ nI M - nI 1) = decide (cl x 3 < M) := by
  by_cases h0 : M = 0
  · subst h0
    have : ¬ (nI 0 ≤ x ∧ x ≤ nI 0 - nI 1) := by
      rintro ⟨h1, h2⟩
      exact absurd (Int32.le_trans h1 h2) (by decide)
    simp [this]
  · rw [al_sub (by omega)]
    rcases i_cases x 3 (by decide) with ⟨n, hn, rfl⟩ | ho
    · rw [cl_in hn (by decide)]
      apply decide_eq_decide.mpr
      rw [al_le (by omega) (by omega), al_le (by omega) (by omega)]
      omega
    · rw [cl_out ho]
      have : ¬ (nI 0 ≤ x ∧ x ≤ nI (M - 1)) := by
        rintro ⟨h1, h2⟩
        rcases ho with h3 | h3
        · exact absurd h3 (Int32.not_lt.mpr h1)
        · have h4 := Int32.le_trans h3 h2
          rw [al_le (by omega) (by omega)] at h4
          omega
      have h5 : ¬ 3 < M := by omega
      simp [this, h5]
theorem r_range {h : jh} {m : Nat} {s : ms} {v : vw} (R : RowV (s 2) v) (W : WFv v) (x y a : Int32) : rA h m s (f_X13_range m x y a (pm h m s)) (qRange v x y a) := by
  have hc := W.c1
  unfold f_X13_range
  refine ra_in fun s1 h0 e1 _ => ?_
  have R1 : RowV (s1 2) v := by rw [e1]; exact R
  rw [pm_cV, show f_X13_isSpace m 1 x (pm h m s1) = _ from t_isS1 R1 W x, bd_some]
  unfold qRange
  by_cases hs : isS v 11 x = true
  · obtain ⟨u, hu, rfl, eu⟩ := isS_t hc.2 hs
    have hk3 := W.uk u hu
    rw [hs, if_neg (show ¬ bn true = 0 by decide), if_pos rfl, eu, pm_cV, show f_X13_spaceOf m 1 (nI u) 3 (pm h m s1) = _ from v_rn R1 W u hu, bd_some, r_isIn, show decide ((0 : Int32) ≤ y ∧ y ≤ nI (v 60 u) - 1) = decide (cl y 3 < v 60 u) from in_sub y _ hk3.2, bd_some]
    by_cases hi : cl y 3 < v 60 u
    · rw [decide_eq_true hi, if_neg (show ¬ bn true = 0 by decide), if_pos hi, r_isIn, show decide ((0 : Int32) ≤ a ∧ a ≤ 2) = decide (cl a 3 < 3) from in_cl a 2 3 rfl (by decide), bd_some]
      have ey : y = nI (cl y 3) := cl_eq (by decide) (by omega)
      rw [ey, cl_in (show cl y 3 < 3 by omega) (by decide)]
      generalize cl y 3 = r at hi ⊢
      rcases i_cases a 3 (by decide) with ⟨w, hw, rfl⟩ | ho
      · rw [cl_in hw (by decide), decide_eq_true hw, if_neg (show ¬ bn true = 0 by decide), if_pos hw, pm_gR2, pm_cV, r_rangeAt, bd_some, al_add, rd2 _ _ _ _ _ (by omega)]
        have e2 := R1.ri u r hu hi
        have e3 := R1.ro u r hu hi
        have e4 := R1.rm u r hu hi
        have hw' : w = 0 ∨ w = 1 ∨ w = 2 := by omega
        rcases hw' with rfl | rfl | rfl
        · rw [Nat.add_zero, e2]; exact ra_ok h0 _
        · rw [e3]; exact ra_ok h0 _
        · rw [e4]; exact ra_ok h0 _
      · rw [cl_out ho, show decide (3 < 3) = false from rfl, if_pos (show bn false = 0 by decide), if_neg (by decide)]
        exact ra_fail 1
    · rw [decide_eq_false hi, if_pos (show bn false = 0 by decide), if_neg hi]
      exact ra_fail 1
  · have hs : isS v 11 x = false := by simpa using hs
    rw [hs, if_pos (show bn false = 0 by decide), if_neg (by decide)]
    exact ra_fail 1
theorem r_may107 {h : jh} {m : Nat} {s : ms} (h0 : s 1 0 = nI 0) (b : Bool) : rA h m s (f_X13_may_b107 (bn b) (pm h m s)) (0, bn b) := by
  unfold f_X13_may_b107
  cases b <;> exact ra_ok h0 _
theorem r_may {h : jh} {m : Nat} {s : ms} {v : vw} (R : RowV (s 2) v) (W : WFv v) (x y a : Int32) : rA h m s (f_X13_may m x y a (pm h m s)) (qMay v x y a) := by
  have hc0 := W.c0
  have hc1 := W.c1
  unfold f_X13_may
  refine ra_in fun s1 h0 e1 _ => ?_
  have R1 : RowV (s1 2) v := by rw [e1]; exact R
  rw [pm_cV, t_isP R1 W, bd_some]
  unfold qMay
  by_cases hp : isP v x = true
  · obtain ⟨p, hp16, rfl, e, hp1⟩ := isP_t hp
    rw [hp, if_neg (show ¬ bn true = 0 by decide), if_pos rfl, e, pm_cV, t_isP R1 W, bd_some]
    by_cases hq : isP v y = true
    · obtain ⟨q, hq16, rfl, eq, hq1⟩ := isP_t hq
      have h2 := W.pr q hq16
      rw [hq, if_neg (show ¬ bn true = 0 by decide), if_pos rfl, eq, r_isIn, show decide ((0 : Int32) ≤ a ∧ a ≤ 5) = decide (cl a 6 < 6) from in_cl a 5 6 rfl (by decide), bd_some]
      rcases i_cases a 6 (by decide) with ⟨w, hw, rfl⟩ | ho
      · rw [cl_in hw (by decide), decide_eq_true hw, if_pos (show ¬ bn true = 0 by decide)]
        unfold qMy f_X13_may_b104
        have hw' : w = 0 ∨ w = 1 ∨ w = 2 ∨ w = 3 ∨ w = 4 ∨ w = 5 := by omega
        rcases hw' with rfl | rfl | rfl | rfl | rfl | rfl <;> simp (discharger := omega) only [↓al_m, al_lit, al_add, al_mul, bd_some, pm_cV, pm_gR2, bn_0, bn_1, bn_jz, v_of R1, v_nm R1, v_ct0 R1, v_ct1 R1, v_ct2 R1, v_ar0 R1 W, v_ar1 R1 W, v_ar2 R1 W, v_dp0 R1 W, v_dp1 R1 W, v_dp2 R1 W, v_kp0 R1 W, v_kp1 R1 W, v_kp2 R1 W, v_gv R1 W, v_bg R1 W, v_rn R1 W, v_sh R1 W, al_eq, t_sees R1 W, t_isOver R1 W, t_canKill R1 W, t_canEnter R1 W, if_true, if_false, not_true_eq_false, not_false_eq_true, Nat.reduceEqDiff, Nat.one_ne_zero, Nat.zero_ne_one] <;> exact r_may107 h0 _
      · rw [cl_out ho, show decide (6 < 6) = false from rfl, if_neg (show ¬ ¬ bn false = 0 by decide)]
        unfold qMy
        simp only [if_true, if_false, not_true_eq_false, not_false_eq_true, Nat.reduceEqDiff, Nat.one_ne_zero, Nat.zero_ne_one]
        exact ra_fail 1
    · have hq : isP v y = false := by simpa using hq
      rw [hq, if_pos (show bn false = 0 by decide), if_neg (by decide)]
      exact ra_fail 1
  · have hp : isP v x = false := by simpa using hp
    rw [hp, if_pos (show bn false = 0 by decide), if_neg (by decide)]
    exact ra_fail 1
theorem r_over {h : jh} {m : Nat} {s : ms} {v : vw} (R : RowV (s 2) v) (W : WFv v) (x y : Int32) : rA h m s (f_X13_over m x y (pm h m s)) (qOver v x y) := by
  have hc1 := W.c1
  unfold f_X13_over
  refine ra_in fun s1 h0 e1 _ => ?_
  have R1 : RowV (s1 2) v := by rw [e1]; exact R
  rw [pm_cV, t_isP R1 W, bd_some]
  unfold qOver
  by_cases hp : isP v x = true
  · obtain ⟨p, hp16, rfl, e, hp1⟩ := isP_t hp
    rw [hp, if_neg (show ¬ bn true = 0 by decide), if_pos rfl, e, pm_cV, show f_X13_isSpace m 1 y (pm h m s1) = _ from t_isS1 R1 W y, bd_some]
    by_cases hs : isS v 11 y = true
    · obtain ⟨u, hu, rfl, eu⟩ := isS_t hc1.2 hs
      rw [hs, if_neg (show ¬ bn true = 0 by decide), if_pos rfl, eu, pm_cV, t_isOver R1 W p u hp16 hu, bd_some]
      exact r_may107 h0 _
    · have hs : isS v 11 y = false := by simpa using hs
      rw [hs, if_pos (show bn false = 0 by decide), if_neg (by decide)]
      exact ra_fail 1
  · have hp : isP v x = false := by simpa using hp
    rw [hp, if_pos (show bn false = 0 by decide), if_neg (by decide)]
    exact ra_fail 1
theorem r_shared {h : jh} {m : Nat} {s : ms} {v : vw} (R : RowV (s 2) v) (W : WFv v) (x y : Int32) : rA h m s (f_X13_shared m x y (pm h m s)) (qShared v x y) := by
  have hc1 := W.c1
  unfold f_X13_shared
  refine ra_in fun s1 h0 e1 _ => ?_
  have R1 : RowV (s1 2) v := by rw [e1]; exact R
  rw [pm_cV, show f_X13_isSpace m 1 x (pm h m s1) = _ from t_isS1 R1 W x, bd_some]
  unfold qShared
  by_cases hs : isS v 11 x = true
  · obtain ⟨u, hu, rfl, eu⟩ := isS_t hc1.2 hs
    rw [hs, if_neg (show ¬ bn true = 0 by decide), if_pos rfl, eu, pm_cV, show f_X13_isSpace m 1 y (pm h m s1) = _ from t_isS1 R1 W y, bd_some]
    by_cases ht : isS v 11 y = true
    · obtain ⟨o, ho, rfl, eo⟩ := isS_t hc1.2 ht
      obtain ⟨f, hf⟩ := jfu_s
      rw [ht, if_pos (show ¬ bn true = 0 by decide), if_pos rfl, eo]
      obtain ⟨w, e⟩ := t_shared_l (h := h) (m := m) W u o hu ho (jlp5 (f_X13_shared_h34 (fun y18 h17 => some (y18, h17)))) (fun _ => rfl) 100 0 0 jfu s1 R1 (by omega) (by omega)
      rw [Nat.zero_add] at e
      exact ⟨_, e, by rw [sw_ne _ _ _ _ (by decide)]; exact h0, SEq_sw s1 17 w (by decide)⟩
    · have ht : isS v 11 y = false := by simpa using ht
      rw [ht, if_neg (show ¬ ¬ bn false = 0 by decide), if_neg (by decide)]
      exact ra_fail 1
  · have hs : isS v 11 x = false := by simpa using hs
    rw [hs, if_pos (show bn false = 0 by decide), if_neg (by decide)]
    exact ra_fail 1
