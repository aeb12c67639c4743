def t0_X13_inside : List (Nat × Instr × Nat) := [(0, .aload_n 0, 1), (1, .iconst 0, 1), (2, .putfield 96, 3), (5, .aload_n 0, 1), (6, .iconst 1, 1), (7, .iload_n 1, 1), (8, .invokevirtual 254, 3), (11, .ifCond .ne 9, 3), (14, .aload_n 0, 1), (15, .iconst 1, 1), (16, .invokevirtual 185, 3), (19, .ireturn, 1), (20, .iload_n 2, 1), (21, .iconst 0, 1), (22, .bipush 99, 2), (24, .invokestatic 169, 3), (27, .ifCond .eq 12, 3), (30, .aload_n 0, 1), (31, .iload_n 1, 1), (32, .iload_n 2, 1), (33, .invokevirtual 264, 3), (36, .goto 8, 3), (39, .aload_n 0, 1), (40, .iconst 2, 1), (41, .invokevirtual 185, 3), (44, .ireturn, 1)]
theorem t_X13_inside : jv_dec cX13_inside t0_X13_inside = true := by decide +kernel
def M_X13_inside : jm := (yX13_inside, cX13_inside, 3, (some .int), 4, 93, [])
def f_X13_inside (a0 : Nat) (a1 : Int32) (a2 : Int32) (h : jh) : Option (Int32 × jh) :=
  pV h a0 11 1 (.int (0)) fun h1 =>
  cV h1 a0 11 (f_X13_isSpace a0 1 a1 h1) fun v2 h3 =>
  (if ¬ v2 = 0 then
  bd (f_X13_isIn a2 0 99 h3) fun v5 h6 =>
  (if v5 = 0 then
  cV h6 a0 11 (f_X13_fail a0 2 h6) fun v8 h9 =>
  some (v8, h9)
  else
  cV h6 a0 11 (f_X13_fromRoot a0 a1 a2 h6) fun v10 h11 =>
  some (v10, h11))
  else
  cV h3 a0 11 (f_X13_fail a0 1 h3) fun v12 h13 =>
  some (v12, h13))
theorem P_X13_inside (X : jx) (a0 : Nat) (a1 : Int32) (a2 : Int32) (h : jh) : jv_P X M_X13_inside jeI [.ref (a0), .int (a1), .int (a2)] h (f_X13_inside a0 a1 a2 h) := by
  refine jv_P.of (by decide) rfl (by simp [Value.category]) (Nat.le_of_ble_eq_true rfl) ?_
  show jv_O X M_X13_inside (h.1, h.2.1) jeI 0 [some (.ref (a0)), some (.int (a1)), some (.int (a2))] [] h (f_X13_inside a0 a1 a2 h)
  unfold f_X13_inside
  refine jv_aload_n (jv_dk t_X13_inside (k := 0) rfl) rfl rfl (Or.inr ⟨_, rfl⟩) ?_
  refine jv_iconst (v := 0) (jv_dk t_X13_inside (k := 1) rfl) (by decide) ?_
  refine jv_pV (jv_dk t_X13_inside (k := 2) rfl) fl_X13_96 kX13 (Or.inl rfl) rfl rfl rfl (fun h1 => ?_)
  refine jv_aload_n (jv_dk t_X13_inside (k := 3) rfl) rfl rfl (Or.inr ⟨_, rfl⟩) ?_
  refine jv_iconst (v := 1) (jv_dk t_X13_inside (k := 4) rfl) (by decide) ?_
  refine jv_iload_n (jv_dk t_X13_inside (k := 5) rfl) rfl rfl ?_
  refine jv_callV (en' := jeI) (pv := jpI) (As := [.int (1), .int (a1)]) (S := []) (jv_dk t_X13_inside (k := 6) rfl) (fun _ => rfl) (Or.inl lk_X13_254) me_X13_isSpace mv_X13_isSpace ⟨by decide, by decide⟩ rfl rfl rfl (Nat.le_of_ble_eq_true rfl) (P_X13_isSpace X a0 1 a1 h1) (fun v2 h3 => ?_)
  show jv_O X M_X13_inside _ jeI 11 [some (.ref (a0)), some (.int (a1)), some (.int (a2))] [.int (v2)] h3 _
  refine jv_if_ne (tgt := 20) (jv_dk t_X13_inside (k := 7) rfl) rfl (fun c4 => ?_) (fun c4 => ?_)
  · refine jv_iload_n (jv_dk t_X13_inside (k := 12) rfl) rfl rfl ?_
    refine jv_iconst (v := 0) (jv_dk t_X13_inside (k := 13) rfl) (by decide) ?_
    refine jv_bipush (v := 99) (jv_dk t_X13_inside (k := 14) rfl) (by decide) ?_
    refine jv_callS (en' := jeI) (pv := jpI) (As := [.int (a2), .int (0), .int (99)]) (S := []) (jv_dk t_X13_inside (k := 15) rfl) (fun _ => rfl) (Or.inl lk_X13_169) me_X13_isIn ms_X13_isIn ⟨by decide, by decide⟩ rfl rfl (Nat.le_of_ble_eq_true rfl) (P_X13_isIn X a2 0 99 h3) (fun v5 h6 => ?_)
    show jv_O X M_X13_inside _ jeI 27 [some (.ref (a0)), some (.int (a1)), some (.int (a2))] [.int (v5)] h6 _
    refine jv_if_eq (tgt := 39) (jv_dk t_X13_inside (k := 16) rfl) rfl (fun c7 => ?_) (fun c7 => ?_)
    · refine jv_aload_n (jv_dk t_X13_inside (k := 22) rfl) rfl rfl (Or.inr ⟨_, rfl⟩) ?_
      refine jv_iconst (v := 2) (jv_dk t_X13_inside (k := 23) rfl) (by decide) ?_
      refine jv_callV (en' := jeI) (pv := jpI) (As := [.int (2)]) (S := []) (jv_dk t_X13_inside (k := 24) rfl) (fun _ => rfl) (Or.inl lk_X13_185) me_X13_fail mv_X13_fail ⟨by decide, by decide⟩ rfl rfl rfl (Nat.le_of_ble_eq_true rfl) (P_X13_fail X a0 2 h6) (fun v8 h9 => ?_)
      show jv_O X M_X13_inside _ jeI 44 [some (.ref (a0)), some (.int (a1)), some (.int (a2))] [.int (v8)] h9 _
      exact jv_iret (ty := .int) (jv_dk t_X13_inside (k := 25) rfl) rfl rfl rfl
    · show jv_O _ _ _ _ 30 _ _ _ _
      refine jv_aload_n (jv_dk t_X13_inside (k := 17) rfl) rfl rfl (Or.inr ⟨_, rfl⟩) ?_
      refine jv_iload_n (jv_dk t_X13_inside (k := 18) rfl) rfl rfl ?_
      refine jv_iload_n (jv_dk t_X13_inside (k := 19) rfl) rfl rfl ?_
      refine jv_callV (en' := jeI) (pv := jpI) (As := [.int (a1), .int (a2)]) (S := []) (jv_dk t_X13_inside (k := 20) rfl) (fun _ => rfl) (Or.inl lk_X13_264) me_X13_fromRoot mv_X13_fromRoot ⟨by decide, by decide⟩ rfl rfl rfl (Nat.le_of_ble_eq_true rfl) (P_X13_fromRoot X a0 a1 a2 h6) (fun v10 h11 => ?_)
      show jv_O X M_X13_inside _ jeI 36 [some (.ref (a0)), some (.int (a1)), some (.int (a2))] [.int (v10)] h11 _
      refine jv_goto (tgt := 44) (jv_dk t_X13_inside (k := 21) rfl) rfl ?_
      exact jv_iret (ty := .int) (jv_dk t_X13_inside (k := 25) rfl) rfl rfl rfl
  · show jv_O _ _ _ _ 14 _ _ _ _
    refine jv_aload_n (jv_dk t_X13_inside (k := 8) rfl) rfl rfl (Or.inr ⟨_, rfl⟩) ?_
    refine jv_iconst (v := 1) (jv_dk t_X13_inside (k := 9) rfl) (by decide) ?_
    refine jv_callV (en' := jeI) (pv := jpI) (As := [.int (1)]) (S := []) (jv_dk t_X13_inside (k := 10) rfl) (fun _ => rfl) (Or.inl lk_X13_185) me_X13_fail mv_X13_fail ⟨by decide, by decide⟩ rfl rfl rfl (Nat.le_of_ble_eq_true rfl) (P_X13_fail X a0 1 h3) (fun v12 h13 => ?_)
    show jv_O X M_X13_inside _ jeI 19 [some (.ref (a0)), some (.int (a1)), some (.int (a2))] [.int (v12)] h13 _
    exact jv_iret (ty := .int) (jv_dk t_X13_inside (k := 11) rfl) rfl rfl rfl
def t0_X13_outside : List (Nat × Instr × Nat) := [(0, .aload_n 0, 1), (1, .iconst 0, 1), (2, .putfield 96, 3), (5, .aload_n 0, 1), (6, .iconst 1, 1), (7, .iload_n 1, 1), (8, .invokevirtual 254, 3), (11, .ifCond .ne 9, 3), (14, .aload_n 0, 1), (15, .iconst 1, 1), (16, .invokevirtual 185, 3), (19, .ireturn, 1), (20, .iload_n 2, 1), (21, .iconst 0, 1), (22, .bipush 99, 2), (24, .invokestatic 169, 3), (27, .ifCond .eq 12, 3), (30, .aload_n 0, 1), (31, .iload_n 1, 1), (32, .iload_n 2, 1), (33, .invokevirtual 261, 3), (36, .goto 8, 3), (39, .aload_n 0, 1), (40, .iconst 2, 1), (41, .invokevirtual 185, 3), (44, .ireturn, 1)]
theorem t_X13_outside : jv_dec cX13_outside t0_X13_outside = true := by decide +kernel
def M_X13_outside : jm := (yX13_outside, cX13_outside, 3, (some .int), 4, 92, [])
def f_X13_outside (a0 : Nat) (a1 : Int32) (a2 : Int32) (h : jh) : Option (Int32 × jh) :=
  pV h a0 11 1 (.int (0)) fun h1 =>
  cV h1 a0 11 (f_X13_isSpace a0 1 a1 h1) fun v2 h3 =>
  (if ¬ v2 = 0 then
  bd (f_X13_isIn a2 0 99 h3) fun v5 h6 =>
  (if v5 = 0 then
  cV h6 a0 11 (f_X13_fail a0 2 h6) fun v8 h9 =>
  some (v8, h9)
  else
  cV h6 a0 11 (f_X13_toRoot a0 a1 a2 h6) fun v10 h11 =>
  some (v10, h11))
  else
  cV h3 a0 11 (f_X13_fail a0 1 h3) fun v12 h13 =>
  some (v12, h13))
theorem P_X13_outside (X : jx) (a0 : Nat) (a1 : Int32) (a2 : Int32) (h : jh) : jv_P X M_X13_outside jeI [.ref (a0), .int (a1), .int (a2)] h (f_X13_outside a0 a1 a2 h) := by
  refine jv_P.of (by decide) rfl (by simp [Value.category]) (Nat.le_of_ble_eq_true rfl) ?_
  show jv_O X M_X13_outside (h.1, h.2.1) jeI 0 [some (.ref (a0)), some (.int (a1)), some (.int (a2))] [] h (f_X13_outside a0 a1 a2 h)
  unfold f_X13_outside
  refine jv_aload_n (jv_dk t_X13_outside (k := 0) rfl) rfl rfl (Or.inr ⟨_, rfl⟩) ?_
  refine jv_iconst (v := 0) (jv_dk t_X13_outside (k := 1) rfl) (by decide) ?_
  refine jv_pV (jv_dk t_X13_outside (k := 2) rfl) fl_X13_96 kX13 (Or.inl rfl) rfl rfl rfl (fun h1 => ?_)
  refine jv_aload_n (jv_dk t_X13_outside (k := 3) rfl) rfl rfl (Or.inr ⟨_, rfl⟩) ?_
  refine jv_iconst (v := 1) (jv_dk t_X13_outside (k := 4) rfl) (by decide) ?_
  refine jv_iload_n (jv_dk t_X13_outside (k := 5) rfl) rfl rfl ?_
  refine jv_callV (en' := jeI) (pv := jpI) (As := [.int (1), .int (a1)]) (S := []) (jv_dk t_X13_outside (k := 6) rfl) (fun _ => rfl) (Or.inl lk_X13_254) me_X13_isSpace mv_X13_isSpace ⟨by decide, by decide⟩ rfl rfl rfl (Nat.le_of_ble_eq_true rfl) (P_X13_isSpace X a0 1 a1 h1) (fun v2 h3 => ?_)
  show jv_O X M_X13_outside _ jeI 11 [some (.ref (a0)), some (.int (a1)), some (.int (a2))] [.int (v2)] h3 _
  refine jv_if_ne (tgt := 20) (jv_dk t_X13_outside (k := 7) rfl) rfl (fun c4 => ?_) (fun c4 => ?_)
  · refine jv_iload_n (jv_dk t_X13_outside (k := 12) rfl) rfl rfl ?_
    refine jv_iconst (v := 0) (jv_dk t_X13_outside (k := 13) rfl) (by decide) ?_
    refine jv_bipush (v := 99) (jv_dk t_X13_outside (k := 14) rfl) (by decide) ?_
    refine jv_callS (en' := jeI) (pv := jpI) (As := [.int (a2), .int (0), .int (99)]) (S := []) (jv_dk t_X13_outside (k := 15) rfl) (fun _ => rfl) (Or.inl lk_X13_169) me_X13_isIn ms_X13_isIn ⟨by decide, by decide⟩ rfl rfl (Nat.le_of_ble_eq_true rfl) (P_X13_isIn X a2 0 99 h3) (fun v5 h6 => ?_)
    show jv_O X M_X13_outside _ jeI 27 [some (.ref (a0)), some (.int (a1)), some (.int (a2))] [.int (v5)] h6 _
    refine jv_if_eq (tgt := 39) (jv_dk t_X13_outside (k := 16) rfl) rfl (fun c7 => ?_) (fun c7 => ?_)
    · refine jv_aload_n (jv_dk t_X13_outside (k := 22) rfl) rfl rfl (Or.inr ⟨_, rfl⟩) ?_
      refine jv_iconst (v := 2) (jv_dk t_X13_outside (k := 23) rfl) (by decide) ?_
      refine jv_callV (en' := jeI) (pv := jpI) (As := [.int (2)]) (S := []) (jv_dk t_X13_outside (k := 24) rfl) (fun _ => rfl) (Or.inl lk_X13_185) me_X13_fail mv_X13_fail ⟨by decide, by decide⟩ rfl rfl rfl (Nat.le_of_ble_eq_true rfl) (P_X13_fail X a0 2 h6) (fun v8 h9 => ?_)
      show jv_O X M_X13_outside _ jeI 44 [some (.ref (a0)), some (.int (a1)), some (.int (a2))] [.int (v8)] h9 _
      exact jv_iret (ty := .int) (jv_dk t_X13_outside (k := 25) rfl) rfl rfl rfl
    · show jv_O _ _ _ _ 30 _ _ _ _
      refine jv_aload_n (jv_dk t_X13_outside (k := 17) rfl) rfl rfl (Or.inr ⟨_, rfl⟩) ?_
      refine jv_iload_n (jv_dk t_X13_outside (k := 18) rfl) rfl rfl ?_
      refine jv_iload_n (jv_dk t_X13_outside (k := 19) rfl) rfl rfl ?_
      refine jv_callV (en' := jeI) (pv := jpI) (As := [.int (a1), .int (a2)]) (S := []) (jv_dk t_X13_outside (k := 20) rfl) (fun _ => rfl) (Or.inl lk_X13_261) me_X13_toRoot mv_X13_toRoot ⟨by decide, by decide⟩ rfl rfl rfl (Nat.le_of_ble_eq_true rfl) (P_X13_toRoot X a0 a1 a2 h6) (fun v10 h11 => ?_)
      show jv_O X M_X13_outside _ jeI 36 [some (.ref (a0)), some (.int (a1)), some (.int (a2))] [.int (v10)] h11 _
      refine jv_goto (tgt := 44) (jv_dk t_X13_outside (k := 21) rfl) rfl ?_
      exact jv_iret (ty := .int) (jv_dk t_X13_outside (k := 25) rfl) rfl rfl rfl
  · show jv_O _ _ _ _ 14 _ _ _ _
    refine jv_aload_n (jv_dk t_X13_outside (k := 8) rfl) rfl rfl (Or.inr ⟨_, rfl⟩) ?_
    refine jv_iconst (v := 1) (jv_dk t_X13_outside (k := 9) rfl) (by decide) ?_
    refine jv_callV (en' := jeI) (pv := jpI) (As := [.int (1)]) (S := []) (jv_dk t_X13_outside (k := 10) rfl) (fun _ => rfl) (Or.inl lk_X13_185) me_X13_fail mv_X13_fail ⟨by decide, by decide⟩ rfl rfl rfl (Nat.le_of_ble_eq_true rfl) (P_X13_fail X a0 1 h3) (fun v12 h13 => ?_)
    show jv_O X M_X13_outside _ jeI 19 [some (.ref (a0)), some (.int (a1)), some (.int (a2))] [.int (v12)] h13 _
    exact jv_iret (ty := .int) (jv_dk t_X13_outside (k := 11) rfl) rfl rfl rfl
def t0_X13_range : List (Nat × Instr × Nat) := [(0, .aload_n 0, 1), (1, .iconst 0, 1), (2, .putfield 96, 3), (5, .aload_n 0, 1), (6, .iconst 1, 1), (7, .iload_n 1, 1), (8, .invokevirtual 254, 3), (11, .ifCond .eq 45, 3), (14, .iload_n 2, 1), (15, .iconst 0, 1), (16, .aload_n 0, 1), (17, .iconst 1, 1), (18, .iload_n 1, 1), (19, .iconst 3, 1), (20, .invokevirtual 217, 3), (23, .iconst 1, 1), (24, .isub, 1), (25, .invokestatic 169, 3), (28, .ifCond .eq 28, 3), (31, .iload_n 3, 1), (32, .iconst 0, 1), (33, .iconst 2, 1), (34, .invokestatic 169, 3), (37, .ifCond .eq 19, 3), (40, .aload_n 0, 1), (41, .getfield 37, 3), (44, .aload_n 0, 1), (45, .iload_n 1, 1), (46, .iload_n 2, 1), (47, .invokevirtual 224, 3), (50, .iload_n 3, 1), (51, .iadd, 1), (52, .iaload, 1), (53, .goto 8, 3), (56, .aload_n 0, 1), (57, .iconst 1, 1), (58, .invokevirtual 185, 3), (61, .ireturn, 1)]
theorem t_X13_range : jv_dec cX13_range t0_X13_range = true := by decide +kernel
def M_X13_range : jm := (yX13_range, cX13_range, 4, (some .int), 2, 44, [])
def f_X13_range_b56 (x0 : Nat) (h : jh) : Option (Int32 × jh) :=
  cV h x0 11 (f_X13_fail x0 1 h) fun v5 h6 =>
  some (v5, h6)
theorem o_f_X13_range_b56 {X : jx} {b0 : Nat × Nat} (x0 : Nat) (h : jh) : jv_O X M_X13_range b0 jeI 56 [some (.ref (x0)), none, none, none] [] h (f_X13_range_b56 x0 h) := by
  unfold f_X13_range_b56
  refine jv_aload_n (jv_dk t_X13_range (k := 34) rfl) rfl rfl (Or.inr ⟨_, rfl⟩) ?_
  refine jv_iconst (v := 1) (jv_dk t_X13_range (k := 35) rfl) (by decide) ?_
  refine jv_callV (en' := jeI) (pv := jpI) (As := [.int (1)]) (S := []) (jv_dk t_X13_range (k := 36) rfl) (fun _ => rfl) (Or.inl lk_X13_185) me_X13_fail mv_X13_fail ⟨by decide, by decide⟩ rfl rfl rfl (Nat.le_of_ble_eq_true rfl) (P_X13_fail X x0 1 h) (fun v5 h6 => ?_)
  show jv_O X M_X13_range _ jeI 61 [some (.ref (x0)), none, none, none] [.int (v5)] h6 _
  exact jv_iret (ty := .int) (jv_dk t_X13_range (k := 37) rfl) rfl rfl rfl
def f_X13_range (a0 : Nat) (a1 : Int32) (a2 : Int32) (a3 : Int32) (h : jh) : Option (Int32 × jh) :=
  pV h a0 11 1 (.int (0)) fun h1 =>
  cV h1 a0 11 (f_X13_isSpace a0 1 a1 h1) fun v2 h3 =>
  (if v2 = 0 then
  f_X13_range_b56 a0 h3
  else
  cV h3 a0 11 (f_X13_spaceOf a0 1 a1 3 h3) fun v7 h8 =>
  bd (f_X13_isIn a2 0 (v7 - 1) h8) fun v9 h10 =>
  (if v9 = 0 then
  f_X13_range_b56 a0 h10
  else
  bd (f_X13_isIn a3 0 2 h10) fun v12 h13 =>
  (if v12 = 0 then
  f_X13_range_b56 a0 h13
  else
  gR h13 a0 11 2 fun v15 =>
  cV h13 a0 11 (f_X13_rangeAt a0 a1 a2 h13) fun v16 h17 =>
  aI h17 v15 (v16 + a3) fun v18 =>
  some (v18, h17))))
theorem P_X13_range (X : jx) (a0 : Nat) (a1 : Int32) (a2 : Int32) (a3 : Int32) (h : jh) : jv_P X M_X13_range jeI [.ref (a0), .int (a1), .int (a2), .int (a3)] h (f_X13_range a0 a1 a2 a3 h) := by
  refine jv_P.of (by decide) rfl (by simp [Value.category]) (Nat.le_of_ble_eq_true rfl) ?_
  show jv_O X M_X13_range (h.1, h.2.1) jeI 0 [some (.ref (a0)), some (.int (a1)), some (.int (a2)), some (.int (a3))] [] h (f_X13_range a0 a1 a2 a3 h)
  unfold f_X13_range
  refine jv_aload_n (jv_dk t_X13_range (k := 0) rfl) rfl rfl (Or.inr ⟨_, rfl⟩) ?_
  refine jv_iconst (v := 0) (jv_dk t_X13_range (k := 1) rfl) (by decide) ?_
  refine jv_pV (jv_dk t_X13_range (k := 2) rfl) fl_X13_96 kX13 (Or.inl rfl) rfl rfl rfl (fun h1 => ?_)
  refine jv_aload_n (jv_dk t_X13_range (k := 3) rfl) rfl rfl (Or.inr ⟨_, rfl⟩) ?_
  refine jv_iconst (v := 1) (jv_dk t_X13_range (k := 4) rfl) (by decide) ?_
  refine jv_iload_n (jv_dk t_X13_range (k := 5) rfl) rfl rfl ?_
  refine jv_callV (en' := jeI) (pv := jpI) (As := [.int (1), .int (a1)]) (S := []) (jv_dk t_X13_range (k := 6) rfl) (fun _ => rfl) (Or.inl lk_X13_254) me_X13_isSpace mv_X13_isSpace ⟨by decide, by decide⟩ rfl rfl rfl (Nat.le_of_ble_eq_true rfl) (P_X13_isSpace X a0 1 a1 h1) (fun v2 h3 => ?_)
  show jv_O X M_X13_range _ jeI 11 [some (.ref (a0)), some (.int (a1)), some (.int (a2)), some (.int (a3))] [.int (v2)] h3 _
  refine jv_if_eq (tgt := 56) (jv_dk t_X13_range (k := 7) rfl) rfl (fun c4 => ?_) (fun c4 => ?_)
  · refine jv_le_row (jv_le_s (jv_le_n (jv_le_n (jv_le_n (jv_le_nil))))) ?_
    exact o_f_X13_range_b56 _ _ 
  · show jv_O _ _ _ _ 14 _ _ _ _
    refine jv_iload_n (jv_dk t_X13_range (k := 8) rfl) rfl rfl ?_
    refine jv_iconst (v := 0) (jv_dk t_X13_range (k := 9) rfl) (by decide) ?_
    refine jv_aload_n (jv_dk t_X13_range (k := 10) rfl) rfl rfl (Or.inr ⟨_, rfl⟩) ?_
    refine jv_iconst (v := 1) (jv_dk t_X13_range (k := 11) rfl) (by decide) ?_
    refine jv_iload_n (jv_dk t_X13_range (k := 12) rfl) rfl rfl ?_
    refine jv_iconst (v := 3) (jv_dk t_X13_range (k := 13) rfl) (by decide) ?_
    refine jv_callV (en' := jeI) (pv := jpI) (As := [.int (1), .int (a1), .int (3)]) (S := [.int (0), .int (a2)]) (jv_dk t_X13_range (k := 14) rfl) (fun _ => rfl) (Or.inl lk_X13_217) me_X13_spaceOf mv_X13_spaceOf ⟨by decide, by decide⟩ rfl rfl rfl (Nat.le_of_ble_eq_true rfl) (P_X13_spaceOf X a0 1 a1 3 h3) (fun v7 h8 => ?_)
    show jv_O X M_X13_range _ jeI 23 [some (.ref (a0)), some (.int (a1)), some (.int (a2)), some (.int (a3))] [.int (v7), .int (0), .int (a2)] h8 _
    refine jv_iconst (v := 1) (jv_dk t_X13_range (k := 15) rfl) (by decide) ?_
    refine jv_isub (jv_dk t_X13_range (k := 16) rfl) ?_
    refine jv_callS (en' := jeI) (pv := jpI) (As := [.int (a2), .int (0), .int (v7 - 1)]) (S := []) (jv_dk t_X13_range (k := 17) rfl) (fun _ => rfl) (Or.inl lk_X13_169) me_X13_isIn ms_X13_isIn ⟨by decide, by decide⟩ rfl rfl (Nat.le_of_ble_eq_true rfl) (P_X13_isIn X a2 0 (v7 - 1) h8) (fun v9 h10 => ?_)
    show jv_O X M_X13_range _ jeI 28 [some (.ref (a0)), some (.int (a1)), some (.int (a2)), some (.int (a3))] [.int (v9)] h10 _
    refine jv_if_eq (tgt := 56) (jv_dk t_X13_range (k := 18) rfl) rfl (fun c11 => ?_) (fun c11 => ?_)
    · refine jv_le_row (jv_le_s (jv_le_n (jv_le_n (jv_le_n (jv_le_nil))))) ?_
      exact o_f_X13_range_b56 _ _ 
    · show jv_O _ _ _ _ 31 _ _ _ _
      refine jv_iload_n (jv_dk t_X13_range (k := 19) rfl) rfl rfl ?_
      refine jv_iconst (v := 0) (jv_dk t_X13_range (k := 20) rfl) (by decide) ?_
      refine jv_iconst (v := 2) (jv_dk t_X13_range (k := 21) rfl) (by decide) ?_
      refine jv_callS (en' := jeI) (pv := jpI) (As := [.int (a3), .int (0), .int (2)]) (S := []) (jv_dk t_X13_range (k := 22) rfl) (fun _ => rfl) (Or.inl lk_X13_169) me_X13_isIn ms_X13_isIn ⟨by decide, by decide⟩ rfl rfl (Nat.le_of_ble_eq_true rfl) (P_X13_isIn X a3 0 2 h10) (fun v12 h13 => ?_)
      show jv_O X M_X13_range _ jeI 37 [some (.ref (a0)), some (.int (a1)), some (.int (a2)), some (.int (a3))] [.int (v12)] h13 _
      refine jv_if_eq (tgt := 56) (jv_dk t_X13_range (k := 23) rfl) rfl (fun c14 => ?_) (fun c14 => ?_)
      · refine jv_le_row (jv_le_s (jv_le_n (jv_le_n (jv_le_n (jv_le_nil))))) ?_
        exact o_f_X13_range_b56 _ _ 
      · show jv_O _ _ _ _ 40 _ _ _ _
        refine jv_aload_n (jv_dk t_X13_range (k := 24) rfl) rfl rfl (Or.inr ⟨_, rfl⟩) ?_
        refine jv_gR (jv_dk t_X13_range (k := 25) rfl) fl_X13_37 (fun v15 => ?_)
        refine jv_aload_n (jv_dk t_X13_range (k := 26) rfl) rfl rfl (Or.inr ⟨_, rfl⟩) ?_
        refine jv_iload_n (jv_dk t_X13_range (k := 27) rfl) rfl rfl ?_
        refine jv_iload_n (jv_dk t_X13_range (k := 28) rfl) rfl rfl ?_
        refine jv_callV (en' := jeI) (pv := jpI) (As := [.int (a1), .int (a2)]) (S := [.ref (v15)]) (jv_dk t_X13_range (k := 29) rfl) (fun _ => rfl) (Or.inl lk_X13_224) me_X13_rangeAt mv_X13_rangeAt ⟨by decide, by decide⟩ rfl rfl rfl (Nat.le_of_ble_eq_true rfl) (P_X13_rangeAt X a0 a1 a2 h13) (fun v16 h17 => ?_)
        show jv_O X M_X13_range _ jeI 50 [some (.ref (a0)), some (.int (a1)), some (.int (a2)), some (.int (a3))] [.int (v16), .ref (v15)] h17 _
        refine jv_iload_n (jv_dk t_X13_range (k := 30) rfl) rfl rfl ?_
        refine jv_iadd (jv_dk t_X13_range (k := 31) rfl) ?_
        refine jv_iaload (jv_dk t_X13_range (k := 32) rfl) (fun v18 => ?_)
        refine jv_goto (tgt := 61) (jv_dk t_X13_range (k := 33) rfl) rfl ?_
        exact jv_iret (ty := .int) (jv_dk t_X13_range (k := 37) rfl) rfl rfl rfl
def t0_X13_mounted : List (Nat × Instr × Nat) := [(0, .aload_n 0, 1), (1, .iconst 0, 1), (2, .putfield 96, 3), (5, .aload_n 0, 1), (6, .iconst 2, 1), (7, .iload_n 1, 1), (8, .invokevirtual 254, 3), (11, .ifCond .eq 25, 3), (14, .iload_n 2, 1), (15, .iconst 0, 1), (16, .bipush 7, 2), (18, .invokestatic 169, 3), (21, .ifCond .eq 15, 3), (24, .aload_n 0, 1), (25, .iconst 2, 1), (26, .iload_n 1, 1), (27, .iconst 4, 1), (28, .iload_n 2, 1), (29, .iadd, 1), (30, .invokevirtual 217, 3), (33, .goto 8, 3), (36, .aload_n 0, 1), (37, .iconst 1, 1), (38, .invokevirtual 185, 3), (41, .ireturn, 1)]
theorem t_X13_mounted : jv_dec cX13_mounted t0_X13_mounted = true := by decide +kernel
def M_X13_mounted : jm := (yX13_mounted, cX13_mounted, 3, (some .int), 2, 44, [])
def f_X13_mounted_b36 (x0 : Nat) (h : jh) : Option (Int32 × jh) :=
  cV h x0 11 (f_X13_fail x0 1 h) fun v5 h6 =>
  some (v5, h6)
theorem o_f_X13_mounted_b36 {X : jx} {b0 : Nat × Nat} (x0 : Nat) (h : jh) : jv_O X M_X13_mounted b0 jeI 36 [some (.ref (x0)), none, none] [] h (f_X13_mounted_b36 x0 h) := by
  unfold f_X13_mounted_b36
  refine jv_aload_n (jv_dk t_X13_mounted (k := 21) rfl) rfl rfl (Or.inr ⟨_, rfl⟩) ?_
  refine jv_iconst (v := 1) (jv_dk t_X13_mounted (k := 22) rfl) (by decide) ?_
  refine jv_callV (en' := jeI) (pv := jpI) (As := [.int (1)]) (S := []) (jv_dk t_X13_mounted (k := 23) rfl) (fun _ => rfl) (Or.inl lk_X13_185) me_X13_fail mv_X13_fail ⟨by decide, by decide⟩ rfl rfl rfl (Nat.le_of_ble_eq_true rfl) (P_X13_fail X x0 1 h) (fun v5 h6 => ?_)
  show jv_O X M_X13_mounted _ jeI 41 [some (.ref (x0)), none, none] [.int (v5)] h6 _
  exact jv_iret (ty := .int) (jv_dk t_X13_mounted (k := 24) rfl) rfl rfl rfl
def f_X13_mounted (a0 : Nat) (a1 : Int32) (a2 : Int32) (h : jh) : Option (Int32 × jh) :=
  pV h a0 11 1 (.int (0)) fun h1 =>
  cV h1 a0 11 (f_X13_isSpace a0 2 a1 h1) fun v2 h3 =>
  (if v2 = 0 then
  f_X13_mounted_b36 a0 h3
  else
  bd (f_X13_isIn a2 0 7 h3) fun v7 h8 =>
  (if v7 = 0 then
  f_X13_mounted_b36 a0 h8
  else
  cV h8 a0 11 (f_X13_spaceOf a0 2 a1 (4 + a2) h8) fun v10 h11 =>
  some (v10, h11)))
theorem P_X13_mounted (X : jx) (a0 : Nat) (a1 : Int32) (a2 : Int32) (h : jh) : jv_P X M_X13_mounted jeI [.ref (a0), .int (a1), .int (a2)] h (f_X13_mounted a0 a1 a2 h) := by
  refine jv_P.of (by decide) rfl (by simp [Value.category]) (Nat.le_of_ble_eq_true rfl) ?_
  show jv_O X M_X13_mounted (h.1, h.2.1) jeI 0 [some (.ref (a0)), some (.int (a1)), some (.int (a2))] [] h (f_X13_mounted a0 a1 a2 h)
  unfold f_X13_mounted
  refine jv_aload_n (jv_dk t_X13_mounted (k := 0) rfl) rfl rfl (Or.inr ⟨_, rfl⟩) ?_
  refine jv_iconst (v := 0) (jv_dk t_X13_mounted (k := 1) rfl) (by decide) ?_
  refine jv_pV (jv_dk t_X13_mounted (k := 2) rfl) fl_X13_96 kX13 (Or.inl rfl) rfl rfl rfl (fun h1 => ?_)
  refine jv_aload_n (jv_dk t_X13_mounted (k := 3) rfl) rfl rfl (Or.inr ⟨_, rfl⟩) ?_
  refine jv_iconst (v := 2) (jv_dk t_X13_mounted (k := 4) rfl) (by decide) ?_
  refine jv_iload_n (jv_dk t_X13_mounted (k := 5) rfl) rfl rfl ?_
  refine jv_callV (en' := jeI) (pv := jpI) (As := [.int (2), .int (a1)]) (S := []) (jv_dk t_X13_mounted (k := 6) rfl) (fun _ => rfl) (Or.inl lk_X13_254) me_X13_isSpace mv_X13_isSpace ⟨by decide, by decide⟩ rfl rfl rfl (Nat.le_of_ble_eq_true rfl) (P_X13_isSpace X a0 2 a1 h1) (fun v2 h3 => ?_)
  show jv_O X M_X13_mounted _ jeI 11 [some (.ref (a0)), some (.int (a1)), some (.int (a2))] [.int (v2)] h3 _
  refine jv_if_eq (tgt := 36) (jv_dk t_X13_mounted (k := 7) rfl) rfl (fun c4 => ?_) (fun c4 => ?_)
  · refine jv_le_row (jv_le_s (jv_le_n (jv_le_n (jv_le_nil)))) ?_
    exact o_f_X13_mounted_b36 _ _ 
  · show jv_O _ _ _ _ 14 _ _ _ _
    refine jv_iload_n (jv_dk t_X13_mounted (k := 8) rfl) rfl rfl ?_
    refine jv_iconst (v := 0) (jv_dk t_X13_mounted (k := 9) rfl) (by decide) ?_
    refine jv_bipush (v := 7) (jv_dk t_X13_mounted (k := 10) rfl) (by decide) ?_
    refine jv_callS (en' := jeI) (pv := jpI) (As := [.int (a2), .int (0), .int (7)]) (S := []) (jv_dk t_X13_mounted (k := 11) rfl) (fun _ => rfl) (Or.inl lk_X13_169) me_X13_isIn ms_X13_isIn ⟨by decide, by decide⟩ rfl rfl (Nat.le_of_ble_eq_true rfl) (P_X13_isIn X a2 0 7 h3) (fun v7 h8 => ?_)
    show jv_O X M_X13_mounted _ jeI 21 [some (.ref (a0)), some (.int (a1)), some (.int (a2))] [.int (v7)] h8 _
    refine jv_if_eq (tgt := 36) (jv_dk t_X13_mounted (k := 12) rfl) rfl (fun c9 => ?_) (fun c9 => ?_)
    · refine jv_le_row (jv_le_s (jv_le_n (jv_le_n (jv_le_nil)))) ?_
      exact o_f_X13_mounted_b36 _ _ 
    · show jv_O _ _ _ _ 24 _ _ _ _
      refine jv_aload_n (jv_dk t_X13_mounted (k := 13) rfl) rfl rfl (Or.inr ⟨_, rfl⟩) ?_
      refine jv_iconst (v := 2) (jv_dk t_X13_mounted (k := 14) rfl) (by decide) ?_
      refine jv_iload_n (jv_dk t_X13_mounted (k := 15) rfl) rfl rfl ?_
      refine jv_iconst (v := 4) (jv_dk t_X13_mounted (k := 16) rfl) (by decide) ?_
      refine jv_iload_n (jv_dk t_X13_mounted (k := 17) rfl) rfl rfl ?_
      refine jv_iadd (jv_dk t_X13_mounted (k := 18) rfl) ?_
      refine jv_callV (en' := jeI) (pv := jpI) (As := [.int (2), .int (a1), .int (4 + a2)]) (S := []) (jv_dk t_X13_mounted (k := 19) rfl) (fun _ => rfl) (Or.inl lk_X13_217) me_X13_spaceOf mv_X13_spaceOf ⟨by decide, by decide⟩ rfl rfl rfl (Nat.le_of_ble_eq_true rfl) (P_X13_spaceOf X a0 2 a1 (4 + a2) h8) (fun v10 h11 => ?_)
      show jv_O X M_X13_mounted _ jeI 33 [some (.ref (a0)), some (.int (a1)), some (.int (a2))] [.int (v10)] h11 _
      refine jv_goto (tgt := 41) (jv_dk t_X13_mounted (k := 20) rfl) rfl ?_
      exact jv_iret (ty := .int) (jv_dk t_X13_mounted (k := 24) rfl) rfl rfl rfl
def t0_X13_may : List (Nat × Instr × Nat) := [(0, .aload_n 0, 1), (1, .iconst 0, 1), (2, .putfield 96, 3), (5, .aload_n 0, 1), (6, .iload_n 1, 1), (7, .invokevirtual 289, 3), (10, .ifCond .eq 20, 3), (13, .aload_n 0, 1), (14, .iload_n 2, 1), (15, .invokevirtual 289, 3), (18, .ifCond .eq 12, 3), (21, .iload_n 3, 1), (22, .iconst 0, 1), (23, .iconst 5, 1), (24, .invokestatic 169, 3), (27, .ifCond .ne 9, 3), (30, .aload_n 0, 1), (31, .iconst 1, 1), (32, .invokevirtual 185, 3), (35, .ireturn, 1), (36, .iload_n 3, 1), (37, .ifCond .ne 12, 3), (40, .aload_n 0, 1), (41, .iload_n 1, 1), (42, .iload_n 2, 1), (43, .invokevirtual 277, 3), (46, .goto 61, 3), (49, .iload_n 3, 1), (50, .iconst 1, 1), (51, .if_icmp .ne 17, 3), (54, .aload_n 0, 1), (55, .iload_n 1, 1), (56, .aload_n 0, 1), (57, .iload_n 2, 1), (58, .iconst 3, 1), (59, .invokevirtual 205, 3), (62, .invokevirtual 267, 3), (65, .goto 42, 3), (68, .iload_n 3, 1), (69, .iconst 2, 1), (70, .if_icmp .ne 12, 3), (73, .aload_n 0, 1), (74, .iload_n 1, 1), (75, .iload_n 2, 1), (76, .invokevirtual 317, 3), (79, .goto 28, 3), (82, .aload_n 0, 1), (83, .iload_n 1, 1), (84, .iload_n 2, 1), (85, .iload_n 3, 1), (86, .iconst 3, 1), (87, .if_icmp .ne 7, 3), (90, .iconst 1, 1), (91, .goto 13, 3), (94, .iload_n 3, 1), (95, .iconst 4, 1), (96, .if_icmp .ne 7, 3), (99, .iconst 0, 1), (100, .goto 4, 3), (103, .iconst 2, 1), (104, .invokevirtual 283, 3), (107, .istore 4, 2), (109, .iload 4, 2), (111, .ifCond .eq 7, 3), (114, .iconst 1, 1), (115, .goto 4, 3), (118, .iconst 0, 1), (119, .ireturn, 1)]
theorem t_X13_may : jv_dec cX13_may t0_X13_may = true := by decide +kernel
def M_X13_may : jm := (yX13_may, cX13_may, 5, (some .int), 5, 115, [])
def f_X13_may_b30 (x0 : Nat) (h : jh) : Option (Int32 × jh) :=
  cV h x0 11 (f_X13_fail x0 1 h) fun v5 h6 =>
  some (v5, h6)
theorem o_f_X13_may_b30 {X : jx} {b0 : Nat × Nat} (x0 : Nat) (h : jh) : jv_O X M_X13_may b0 jeI 30 [some (.ref (x0)), none, none, none, none] [] h (f_X13_may_b30 x0 h) := by
  unfold f_X13_may_b30
  refine jv_aload_n (jv_dk t_X13_may (k := 16) rfl) rfl rfl (Or.inr ⟨_, rfl⟩) ?_
  refine jv_iconst (v := 1) (jv_dk t_X13_may (k := 17) rfl) (by decide) ?_
  refine jv_callV (en' := jeI) (pv := jpI) (As := [.int (1)]) (S := []) (jv_dk t_X13_may (k := 18) rfl) (fun _ => rfl) (Or.inl lk_X13_185) me_X13_fail mv_X13_fail ⟨by decide, by decide⟩ rfl rfl rfl (Nat.le_of_ble_eq_true rfl) (P_X13_fail X x0 1 h) (fun v5 h6 => ?_)
  show jv_O X M_X13_may _ jeI 35 [some (.ref (x0)), none, none, none, none] [.int (v5)] h6 _
  exact jv_iret (ty := .int) (jv_dk t_X13_may (k := 19) rfl) rfl rfl rfl
def f_X13_may_b107 (s0 : Int32) (h : jh) : Option (Int32 × jh) :=
  (if s0 = 0 then
  some (0, h)
  else
  some (1, h))
theorem o_f_X13_may_b107 {X : jx} {b0 : Nat × Nat} (s0 : Int32) (h : jh) : jv_O X M_X13_may b0 jeI 107 [none, none, none, none, none] [.int (s0)] h (f_X13_may_b107 s0 h) := by
  unfold f_X13_may_b107
  refine jv_istore (L' := [none, none, none, none, some (.int (s0))]) (jv_dk t_X13_may (k := 61) rfl) (Nat.le_of_ble_eq_true rfl) rfl ?_
  refine jv_iload (jv_dk t_X13_may (k := 62) rfl) rfl ?_
  refine jv_if_eq (tgt := 118) (jv_dk t_X13_may (k := 63) rfl) rfl (fun c20 => ?_) (fun c20 => ?_)
  · refine jv_iconst (v := 0) (jv_dk t_X13_may (k := 66) rfl) (by decide) ?_
    exact jv_iret (ty := .int) (jv_dk t_X13_may (k := 67) rfl) rfl rfl rfl
  · show jv_O _ _ _ _ 114 _ _ _ _
    refine jv_iconst (v := 1) (jv_dk t_X13_may (k := 64) rfl) (by decide) ?_
    refine jv_goto (tgt := 119) (jv_dk t_X13_may (k := 65) rfl) rfl ?_
    exact jv_iret (ty := .int) (jv_dk t_X13_may (k := 67) rfl) rfl rfl rfl
def f_X13_may_b104 (s0 : Int32) (s1 : Int32) (s2 : Int32) (s3 : Nat) (h : jh) : Option (Int32 × jh) :=
  cV h s3 11 (f_X13_canEnter s3 s2 s1 s0 h) fun v18 h19 =>
  f_X13_may_b107 v18 h19
theorem o_f_X13_may_b104 {X : jx} {b0 : Nat × Nat} (s0 : Int32) (s1 : Int32) (s2 : Int32) (s3 : Nat) (h : jh) : jv_O X M_X13_may b0 jeI 104 [none, none, none, none, none] [.int (s0), .int (s1), .int (s2), .ref (s3)] h (f_X13_may_b104 s0 s1 s2 s3 h) := by
  unfold f_X13_may_b104
  refine jv_callV (en' := jeI) (pv := jpI) (As := [.int (s2), .int (s1), .int (s0)]) (S := []) (jv_dk t_X13_may (k := 60) rfl) (fun _ => rfl) (Or.inl lk_X13_283) me_X13_canEnter mv_X13_canEnter ⟨by decide, by decide⟩ rfl rfl rfl (Nat.le_of_ble_eq_true rfl) (P_X13_canEnter X s3 s2 s1 s0 h) (fun v18 h19 => ?_)
  show jv_O X M_X13_may _ jeI 107 [none, none, none, none, none] [.int (v18)] h19 _
  exact o_f_X13_may_b107 _ _ 
def f_X13_may (a0 : Nat) (a1 : Int32) (a2 : Int32) (a3 : Int32) (h : jh) : Option (Int32 × jh) :=
  pV h a0 11 1 (.int (0)) fun h1 =>
  cV h1 a0 11 (f_X13_isThere a0 a1 h1) fun v2 h3 =>
  (if v2 = 0 then
  f_X13_may_b30 a0 h3
  else
  cV h3 a0 11 (f_X13_isThere a0 a2 h3) fun v7 h8 =>
  (if v7 = 0 then
  f_X13_may_b30 a0 h8
  else
  bd (f_X13_isIn a3 0 5 h8) fun v10 h11 =>
  (if ¬ v10 = 0 then
  (if ¬ a3 = 0 then
  (if ¬ a3 = 1 then
  (if ¬ a3 = 2 then
  (if ¬ a3 = 3 then
  (if ¬ a3 = 4 then
  f_X13_may_b104 2 a2 a1 a0 h11
  else
  f_X13_may_b104 0 a2 a1 a0 h11)
  else
  f_X13_may_b104 1 a2 a1 a0 h11)
  else
  cV h11 a0 11 (f_X13_canKill a0 a1 a2 h11) fun v21 h22 =>
  f_X13_may_b107 v21 h22)
  else
  cV h11 a0 11 (f_X13_of a0 a2 3 h11) fun v23 h24 =>
  cV h24 a0 11 (f_X13_isOver a0 a1 v23 h24) fun v25 h26 =>
  f_X13_may_b107 v25 h26)
  else
  cV h11 a0 11 (f_X13_sees a0 a1 a2 h11) fun v27 h28 =>
  f_X13_may_b107 v27 h28)
  else
  f_X13_may_b30 a0 h11)))
theorem P_X13_may (X : jx) (a0 : Nat) (a1 : Int32) (a2 : Int32) (a3 : Int32) (h : jh) : jv_P X M_X13_may jeI [.ref (a0), .int (a1), .int (a2), .int (a3)] h (f_X13_may a0 a1 a2 a3 h) := by
  refine jv_P.of (by decide) rfl (by simp [Value.category]) (Nat.le_of_ble_eq_true rfl) ?_
  show jv_O X M_X13_may (h.1, h.2.1) jeI 0 [some (.ref (a0)), some (.int (a1)), some (.int (a2)), some (.int (a3)), none] [] h (f_X13_may a0 a1 a2 a3 h)
  unfold f_X13_may
  refine jv_aload_n (jv_dk t_X13_may (k := 0) rfl) rfl rfl (Or.inr ⟨_, rfl⟩) ?_
  refine jv_iconst (v := 0) (jv_dk t_X13_may (k := 1) rfl) (by decide) ?_
  refine jv_pV (jv_dk t_X13_may (k := 2) rfl) fl_X13_96 kX13 (Or.inl rfl) rfl rfl rfl (fun h1 => ?_)
  refine jv_aload_n (jv_dk t_X13_may (k := 3) rfl) rfl rfl (Or.inr ⟨_, rfl⟩) ?_
  refine jv_iload_n (jv_dk t_X13_may (k := 4) rfl) rfl rfl ?_
  refine jv_callV (en' := jeI) (pv := jpI) (As := [.int (a1)]) (S := []) (jv_dk t_X13_may (k := 5) rfl) (fun _ => rfl) (Or.inl lk_X13_289) me_X13_isThere mv_X13_isThere ⟨by decide, by decide⟩ rfl rfl rfl (Nat.le_of_ble_eq_true rfl) (P_X13_isThere X a0 a1 h1) (fun v2 h3 => ?_)
  show jv_O X M_X13_may _ jeI 10 [some (.ref (a0)), some (.int (a1)), some (.int (a2)), some (.int (a3)), none] [.int (v2)] h3 _
  refine jv_if_eq (tgt := 30) (jv_dk t_X13_may (k := 6) rfl) rfl (fun c4 => ?_) (fun c4 => ?_)
  · refine jv_le_row (jv_le_s (jv_le_n (jv_le_n (jv_le_n (jv_le_n (jv_le_nil)))))) ?_
    exact o_f_X13_may_b30 _ _ 
  · show jv_O _ _ _ _ 13 _ _ _ _
    refine jv_aload_n (jv_dk t_X13_may (k := 7) rfl) rfl rfl (Or.inr ⟨_, rfl⟩) ?_
    refine jv_iload_n (jv_dk t_X13_may (k := 8) rfl) rfl rfl ?_
    refine jv_callV (en' := jeI) (pv := jpI) (As := [.int (a2)]) (S := []) (jv_dk t_X13_may (k := 9) rfl) (fun _ => rfl) (Or.inl lk_X13_289) me_X13_isThere mv_X13_isThere ⟨by decide, by decide⟩ rfl rfl rfl (Nat.le_of_ble_eq_true rfl) (P_X13_isThere X a0 a2 h3) (fun v7 h8 => ?_)
    show jv_O X M_X13_may _ jeI 18 [some (.ref (a0)), some (.int (a1)), some (.int (a2)), some (.int (a3)), none] [.int (v7)] h8 _
    refine jv_if_eq (tgt := 30) (jv_dk t_X13_may (k := 10) rfl) rfl (fun c9 => ?_) (fun c9 => ?_)
    · refine jv_le_row (jv_le_s (jv_le_n (jv_le_n (jv_le_n (jv_le_n (jv_le_nil)))))) ?_
      exact o_f_X13_may_b30 _ _ 
    · show jv_O _ _ _ _ 21 _ _ _ _
      refine jv_iload_n (jv_dk t_X13_may (k := 11) rfl) rfl rfl ?_
      refine jv_iconst (v := 0) (jv_dk t_X13_may (k := 12) rfl) (by decide) ?_
      refine jv_iconst (v := 5) (jv_dk t_X13_may (k := 13) rfl) (by decide) ?_
      refine jv_callS (en' := jeI) (pv := jpI) (As := [.int (a3), .int (0), .int (5)]) (S := []) (jv_dk t_X13_may (k := 14) rfl) (fun _ => rfl) (Or.inl lk_X13_169) me_X13_isIn ms_X13_isIn ⟨by decide, by decide⟩ rfl rfl (Nat.le_of_ble_eq_true rfl) (P_X13_isIn X a3 0 5 h8) (fun v10 h11 => ?_)
      show jv_O X M_X13_may _ jeI 27 [some (.ref (a0)), some (.int (a1)), some (.int (a2)), some (.int (a3)), none] [.int (v10)] h11 _
      refine jv_if_ne (tgt := 36) (jv_dk t_X13_may (k := 15) rfl) rfl (fun c12 => ?_) (fun c12 => ?_)
      · refine jv_iload_n (jv_dk t_X13_may (k := 20) rfl) rfl rfl ?_
        refine jv_if_ne (tgt := 49) (jv_dk t_X13_may (k := 21) rfl) rfl (fun c13 => ?_) (fun c13 => ?_)
        · refine jv_iload_n (jv_dk t_X13_may (k := 27) rfl) rfl rfl ?_
          refine jv_iconst (v := 1) (jv_dk t_X13_may (k := 28) rfl) (by decide) ?_
          refine jv_icmp_ne (tgt := 68) (jv_dk t_X13_may (k := 29) rfl) rfl (fun c14 => ?_) (fun c14 => ?_)
          · refine jv_iload_n (jv_dk t_X13_may (k := 38) rfl) rfl rfl ?_
            refine jv_iconst (v := 2) (jv_dk t_X13_may (k := 39) rfl) (by decide) ?_
            refine jv_icmp_ne (tgt := 82) (jv_dk t_X13_may (k := 40) rfl) rfl (fun c15 => ?_) (fun c15 => ?_)
            · refine jv_aload_n (jv_dk t_X13_may (k := 46) rfl) rfl rfl (Or.inr ⟨_, rfl⟩) ?_
              refine jv_iload_n (jv_dk t_X13_may (k := 47) rfl) rfl rfl ?_
              refine jv_iload_n (jv_dk t_X13_may (k := 48) rfl) rfl rfl ?_
              refine jv_iload_n (jv_dk t_X13_may (k := 49) rfl) rfl rfl ?_
              refine jv_iconst (v := 3) (jv_dk t_X13_may (k := 50) rfl) (by decide) ?_
              refine jv_icmp_ne (tgt := 94) (jv_dk t_X13_may (k := 51) rfl) rfl (fun c16 => ?_) (fun c16 => ?_)
              · refine jv_iload_n (jv_dk t_X13_may (k := 54) rfl) rfl rfl ?_
                refine jv_iconst (v := 4) (jv_dk t_X13_may (k := 55) rfl) (by decide) ?_
                refine jv_icmp_ne (tgt := 103) (jv_dk t_X13_may (k := 56) rfl) rfl (fun c17 => ?_) (fun c17 => ?_)
                · refine jv_iconst (v := 2) (jv_dk t_X13_may (k := 59) rfl) (by decide) ?_
                  refine jv_le_row (jv_le_n (jv_le_n (jv_le_n (jv_le_n (jv_le_n (jv_le_nil)))))) ?_
                  exact o_f_X13_may_b104 _ _ _ _ _ 
                · show jv_O _ _ _ _ 99 _ _ _ _
                  refine jv_iconst (v := 0) (jv_dk t_X13_may (k := 57) rfl) (by decide) ?_
                  refine jv_goto (tgt := 104) (jv_dk t_X13_may (k := 58) rfl) rfl ?_
                  refine jv_le_row (jv_le_n (jv_le_n (jv_le_n (jv_le_n (jv_le_n (jv_le_nil)))))) ?_
                  exact o_f_X13_may_b104 _ _ _ _ _ 
              · show jv_O _ _ _ _ 90 _ _ _ _
                refine jv_iconst (v := 1) (jv_dk t_X13_may (k := 52) rfl) (by decide) ?_
                refine jv_goto (tgt := 104) (jv_dk t_X13_may (k := 53) rfl) rfl ?_
                refine jv_le_row (jv_le_n (jv_le_n (jv_le_n (jv_le_n (jv_le_n (jv_le_nil)))))) ?_
                exact o_f_X13_may_b104 _ _ _ _ _ 
            · show jv_O _ _ _ _ 73 _ _ _ _
              refine jv_aload_n (jv_dk t_X13_may (k := 41) rfl) rfl rfl (Or.inr ⟨_, rfl⟩) ?_
              refine jv_iload_n (jv_dk t_X13_may (k := 42) rfl) rfl rfl ?_
              refine jv_iload_n (jv_dk t_X13_may (k := 43) rfl) rfl rfl ?_
              refine jv_callV (en' := jeI) (pv := jpI) (As := [.int (a1), .int (a2)]) (S := []) (jv_dk t_X13_may (k := 44) rfl) (fun _ => rfl) (Or.inl lk_X13_317) me_X13_canKill mv_X13_canKill ⟨by decide, by decide⟩ rfl rfl rfl (Nat.le_of_ble_eq_true rfl) (P_X13_canKill X a0 a1 a2 h11) (fun v21 h22 => ?_)
              show jv_O X M_X13_may _ jeI 79 [some (.ref (a0)), some (.int (a1)), some (.int (a2)), some (.int (a3)), none] [.int (v21)] h22 _
              refine jv_goto (tgt := 107) (jv_dk t_X13_may (k := 45) rfl) rfl ?_
              refine jv_le_row (jv_le_n (jv_le_n (jv_le_n (jv_le_n (jv_le_n (jv_le_nil)))))) ?_
              exact o_f_X13_may_b107 _ _ 
          · show jv_O _ _ _ _ 54 _ _ _ _
            refine jv_aload_n (jv_dk t_X13_may (k := 30) rfl) rfl rfl (Or.inr ⟨_, rfl⟩) ?_
            refine jv_iload_n (jv_dk t_X13_may (k := 31) rfl) rfl rfl ?_
            refine jv_aload_n (jv_dk t_X13_may (k := 32) rfl) rfl rfl (Or.inr ⟨_, rfl⟩) ?_
            refine jv_iload_n (jv_dk t_X13_may (k := 33) rfl) rfl rfl ?_
            refine jv_iconst (v := 3) (jv_dk t_X13_may (k := 34) rfl) (by decide) ?_
            refine jv_callV (en' := jeI) (pv := jpI) (As := [.int (a2), .int (3)]) (S := [.int (a1), .ref (a0)]) (jv_dk t_X13_may (k := 35) rfl) (fun _ => rfl) (Or.inl lk_X13_205) me_X13_of mv_X13_of ⟨by decide, by decide⟩ rfl rfl rfl (Nat.le_of_ble_eq_true rfl) (P_X13_of X a0 a2 3 h11) (fun v23 h24 => ?_)
            show jv_O X M_X13_may _ jeI 62 [some (.ref (a0)), some (.int (a1)), some (.int (a2)), some (.int (a3)), none] [.int (v23), .int (a1), .ref (a0)] h24 _
            refine jv_callV (en' := jeI) (pv := jpI) (As := [.int (a1), .int (v23)]) (S := []) (jv_dk t_X13_may (k := 36) rfl) (fun _ => rfl) (Or.inl lk_X13_267) me_X13_isOver mv_X13_isOver ⟨by decide, by decide⟩ rfl rfl rfl (Nat.le_of_ble_eq_true rfl) (P_X13_isOver X a0 a1 v23 h24) (fun v25 h26 => ?_)
            show jv_O X M_X13_may _ jeI 65 [some (.ref (a0)), some (.int (a1)), some (.int (a2)), some (.int (a3)), none] [.int (v25)] h26 _
            refine jv_goto (tgt := 107) (jv_dk t_X13_may (k := 37) rfl) rfl ?_
            refine jv_le_row (jv_le_n (jv_le_n (jv_le_n (jv_le_n (jv_le_n (jv_le_nil)))))) ?_
            exact o_f_X13_may_b107 _ _ 
        · show jv_O _ _ _ _ 40 _ _ _ _
          refine jv_aload_n (jv_dk t_X13_may (k := 22) rfl) rfl rfl (Or.inr ⟨_, rfl⟩) ?_
          refine jv_iload_n (jv_dk t_X13_may (k := 23) rfl) rfl rfl ?_
          refine jv_iload_n (jv_dk t_X13_may (k := 24) rfl) rfl rfl ?_
          refine jv_callV (en' := jeI) (pv := jpI) (As := [.int (a1), .int (a2)]) (S := []) (jv_dk t_X13_may (k := 25) rfl) (fun _ => rfl) (Or.inl lk_X13_277) me_X13_sees mv_X13_sees ⟨by decide, by decide⟩ rfl rfl rfl (Nat.le_of_ble_eq_true rfl) (P_X13_sees X a0 a1 a2 h11) (fun v27 h28 => ?_)
          show jv_O X M_X13_may _ jeI 46 [some (.ref (a0)), some (.int (a1)), some (.int (a2)), some (.int (a3)), none] [.int (v27)] h28 _
          refine jv_goto (tgt := 107) (jv_dk t_X13_may (k := 26) rfl) rfl ?_
          refine jv_le_row (jv_le_n (jv_le_n (jv_le_n (jv_le_n (jv_le_n (jv_le_nil)))))) ?_
          exact o_f_X13_may_b107 _ _ 
      · show jv_O _ _ _ _ 30 _ _ _ _
        refine jv_le_row (jv_le_s (jv_le_n (jv_le_n (jv_le_n (jv_le_n (jv_le_nil)))))) ?_
        exact o_f_X13_may_b30 _ _ 
def t0_X13_over : List (Nat × Instr × Nat) := [(0, .aload_n 0, 1), (1, .iconst 0, 1), (2, .putfield 96, 3), (5, .aload_n 0, 1), (6, .iload_n 1, 1), (7, .invokevirtual 289, 3), (10, .ifCond .eq 29, 3), (13, .aload_n 0, 1), (14, .iconst 1, 1), (15, .iload_n 2, 1), (16, .invokevirtual 254, 3), (19, .ifCond .eq 20, 3), (22, .aload_n 0, 1), (23, .iload_n 1, 1), (24, .iload_n 2, 1), (25, .invokevirtual 267, 3), (28, .ifCond .eq 7, 3), (31, .iconst 1, 1), (32, .goto 12, 3), (35, .iconst 0, 1), (36, .goto 8, 3), (39, .aload_n 0, 1), (40, .iconst 1, 1), (41, .invokevirtual 185, 3), (44, .ireturn, 1)]
theorem t_X13_over : jv_dec cX13_over t0_X13_over = true := by decide +kernel
def M_X13_over : jm := (yX13_over, cX13_over, 3, (some .int), 4, 91, [])
def f_X13_over_b39 (x0 : Nat) (h : jh) : Option (Int32 × jh) :=
  cV h x0 11 (f_X13_fail x0 1 h) fun v5 h6 =>
  some (v5, h6)
theorem o_f_X13_over_b39 {X : jx} {b0 : Nat × Nat} (x0 : Nat) (h : jh) : jv_O X M_X13_over b0 jeI 39 [some (.ref (x0)), none, none] [] h (f_X13_over_b39 x0 h) := by
  unfold f_X13_over_b39
  refine jv_aload_n (jv_dk t_X13_over (k := 21) rfl) rfl rfl (Or.inr ⟨_, rfl⟩) ?_
  refine jv_iconst (v := 1) (jv_dk t_X13_over (k := 22) rfl) (by decide) ?_
  refine jv_callV (en' := jeI) (pv := jpI) (As := [.int (1)]) (S := []) (jv_dk t_X13_over (k := 23) rfl) (fun _ => rfl) (Or.inl lk_X13_185) me_X13_fail mv_X13_fail ⟨by decide, by decide⟩ rfl rfl rfl (Nat.le_of_ble_eq_true rfl) (P_X13_fail X x0 1 h) (fun v5 h6 => ?_)
  show jv_O X M_X13_over _ jeI 44 [some (.ref (x0)), none, none] [.int (v5)] h6 _
  exact jv_iret (ty := .int) (jv_dk t_X13_over (k := 24) rfl) rfl rfl rfl
def f_X13_over (a0 : Nat) (a1 : Int32) (a2 : Int32) (h : jh) : Option (Int32 × jh) :=
  pV h a0 11 1 (.int (0)) fun h1 =>
  cV h1 a0 11 (f_X13_isThere a0 a1 h1) fun v2 h3 =>
  (if v2 = 0 then
  f_X13_over_b39 a0 h3
  else
  cV h3 a0 11 (f_X13_isSpace a0 1 a2 h3) fun v7 h8 =>
  (if v7 = 0 then
  f_X13_over_b39 a0 h8
  else
  cV h8 a0 11 (f_X13_isOver a0 a1 a2 h8) fun v10 h11 =>
  (if v10 = 0 then
  some (0, h11)
  else
  some (1, h11))))
theorem P_X13_over (X : jx) (a0 : Nat) (a1 : Int32) (a2 : Int32) (h : jh) : jv_P X M_X13_over jeI [.ref (a0), .int (a1), .int (a2)] h (f_X13_over a0 a1 a2 h) := by
  refine jv_P.of (by decide) rfl (by simp [Value.category]) (Nat.le_of_ble_eq_true rfl) ?_
  show jv_O X M_X13_over (h.1, h.2.1) jeI 0 [some (.ref (a0)), some (.int (a1)), some (.int (a2))] [] h (f_X13_over a0 a1 a2 h)
  unfold f_X13_over
  refine jv_aload_n (jv_dk t_X13_over (k := 0) rfl) rfl rfl (Or.inr ⟨_, rfl⟩) ?_
  refine jv_iconst (v := 0) (jv_dk t_X13_over (k := 1) rfl) (by decide) ?_
  refine jv_pV (jv_dk t_X13_over (k := 2) rfl) fl_X13_96 kX13 (Or.inl rfl) rfl rfl rfl (fun h1 => ?_)
  refine jv_aload_n (jv_dk t_X13_over (k := 3) rfl) rfl rfl (Or.inr ⟨_, rfl⟩) ?_
  refine jv_iload_n (jv_dk t_X13_over (k := 4) rfl) rfl rfl ?_
  refine jv_callV (en' := jeI) (pv := jpI) (As := [.int (a1)]) (S := []) (jv_dk t_X13_over (k := 5) rfl) (fun _ => rfl) (Or.inl lk_X13_289) me_X13_isThere mv_X13_isThere ⟨by decide, by decide⟩ rfl rfl rfl (Nat.le_of_ble_eq_true rfl) (P_X13_isThere X a0 a1 h1) (fun v2 h3 => ?_)
  show jv_O X M_X13_over _ jeI 10 [some (.ref (a0)), some (.int (a1)), some (.int (a2))] [.int (v2)] h3 _
  refine jv_if_eq (tgt := 39) (jv_dk t_X13_over (k := 6) rfl) rfl (fun c4 => ?_) (fun c4 => ?_)
  · refine jv_le_row (jv_le_s (jv_le_n (jv_le_n (jv_le_nil)))) ?_
    exact o_f_X13_over_b39 _ _ 
  · show jv_O _ _ _ _ 13 _ _ _ _
    refine jv_aload_n (jv_dk t_X13_over (k := 7) rfl) rfl rfl (Or.inr ⟨_, rfl⟩) ?_
    refine jv_iconst (v := 1) (jv_dk t_X13_over (k := 8) rfl) (by decide) ?_
    refine jv_iload_n (jv_dk t_X13_over (k := 9) rfl) rfl rfl ?_
    refine jv_callV (en' := jeI) (pv := jpI) (As := [.int (1), .int (a2)]) (S := []) (jv_dk t_X13_over (k := 10) rfl) (fun _ => rfl) (Or.inl lk_X13_254) me_X13_isSpace mv_X13_isSpace ⟨by decide, by decide⟩ rfl rfl rfl (Nat.le_of_ble_eq_true rfl) (P_X13_isSpace X a0 1 a2 h3) (fun v7 h8 => ?_)
    show jv_O X M_X13_over _ jeI 19 [some (.ref (a0)), some (.int (a1)), some (.int (a2))] [.int (v7)] h8 _
    refine jv_if_eq (tgt := 39) (jv_dk t_X13_over (k := 11) rfl) rfl (fun c9 => ?_) (fun c9 => ?_)
    · refine jv_le_row (jv_le_s (jv_le_n (jv_le_n (jv_le_nil)))) ?_
      exact o_f_X13_over_b39 _ _ 
    · show jv_O _ _ _ _ 22 _ _ _ _
      refine jv_aload_n (jv_dk t_X13_over (k := 12) rfl) rfl rfl (Or.inr ⟨_, rfl⟩) ?_
      refine jv_iload_n (jv_dk t_X13_over (k := 13) rfl) rfl rfl ?_
      refine jv_iload_n (jv_dk t_X13_over (k := 14) rfl) rfl rfl ?_
      refine jv_callV (en' := jeI) (pv := jpI) (As := [.int (a1), .int (a2)]) (S := []) (jv_dk t_X13_over (k := 15) rfl) (fun _ => rfl) (Or.inl lk_X13_267) me_X13_isOver mv_X13_isOver ⟨by decide, by decide⟩ rfl rfl rfl (Nat.le_of_ble_eq_true rfl) (P_X13_isOver X a0 a1 a2 h8) (fun v10 h11 => ?_)
      show jv_O X M_X13_over _ jeI 28 [some (.ref (a0)), some (.int (a1)), some (.int (a2))] [.int (v10)] h11 _
      refine jv_if_eq (tgt := 35) (jv_dk t_X13_over (k := 16) rfl) rfl (fun c12 => ?_) (fun c12 => ?_)
      · refine jv_iconst (v := 0) (jv_dk t_X13_over (k := 19) rfl) (by decide) ?_
        refine jv_goto (tgt := 44) (jv_dk t_X13_over (k := 20) rfl) rfl ?_
        exact jv_iret (ty := .int) (jv_dk t_X13_over (k := 24) rfl) rfl rfl rfl
      · show jv_O _ _ _ _ 31 _ _ _ _
        refine jv_iconst (v := 1) (jv_dk t_X13_over (k := 17) rfl) (by decide) ?_
        refine jv_goto (tgt := 44) (jv_dk t_X13_over (k := 18) rfl) rfl ?_
        exact jv_iret (ty := .int) (jv_dk t_X13_over (k := 24) rfl) rfl rfl rfl
def t0_X13_reach : List (Nat × Instr × Nat) := [(0, .iconst 0, 1), (1, .istore_n 2, 1), (2, .iconst 0, 1), (3, .istore_n 3, 1), (4, .iload_n 3, 1), (5, .bipush 16, 2), (7, .if_icmp .ge 36, 3), (10, .iload_n 2, 1), (11, .aload_n 0, 1), (12, .iload_n 3, 1), (13, .invokevirtual 289, 3), (16, .ifCond .eq 18, 3), (19, .aload_n 0, 1), (20, .iload_n 1, 1), (21, .iload_n 3, 1), (22, .invokevirtual 317, 3), (25, .ifCond .eq 9, 3), (28, .iconst 1, 1), (29, .iload_n 3, 1), (30, .ishl, 1), (31, .goto 4, 3), (34, .iconst 0, 1), (35, .ior, 1), (36, .istore_n 2, 1), (37, .iinc 3 1, 3), (40, .goto (-36), 3), (43, .iload_n 2, 1), (44, .ireturn, 1)]
theorem t_X13_reach : jv_dec cX13_reach t0_X13_reach = true := by decide +kernel
def M_X13_reach : jm := (yX13_reach, cX13_reach, 4, (some .int), 5, 113, [])
def f_X13_reach_h4 (K4 : Int32 → jh → Option (Int32 × jh)) (R4 : Nat → Int32 → Int32 → Int32 → jh → Option (Int32 × jh)) (x0 : Nat) (x1 : Int32) (x2 : Int32) (x3 : Int32) (h : jh) : Option (Int32 × jh) :=
  (if 16 ≤ x3 then
  K4 x2 h
  else
  cV h x0 11 (f_X13_isThere x0 x3 h) fun v2 h3 =>
  (if v2 = 0 then
  R4 x0 x1 (x2 ||| 0) (x3 + 1) h3
  else
  cV h3 x0 11 (f_X13_canKill x0 x1 x3 h3) fun v5 h6 =>
  (if v5 = 0 then
  R4 x0 x1 (x2 ||| 0) (x3 + 1) h6
  else
  R4 x0 x1 (x2 ||| (1 <<< (x3 &&& 31))) (x3 + 1) h6)))
theorem o_f_X13_reach_h4 {X : jx} {b0 : Nat × Nat} {K4 : Int32 → jh → Option (Int32 × jh)} (hK4 : ∀ (x2 : Int32) (h : jh), jv_O X M_X13_reach b0 jeI 43 [none, none, some (.int (x2)), none] [] h (K4 x2 h)) : ∀ (x0 : Nat) (x1 : Int32) (x2 : Int32) (x3 : Int32) (h : jh), jv_O X M_X13_reach b0 jeI 4 [some (.ref (x0)), some (.int (x1)), some (.int (x2)), some (.int (x3))] [] h (jlp4 (f_X13_reach_h4 K4) jfu x0 x1 x2 x3 h) := by
  refine jlp4_ok (P := fun x0 x1 x2 x3 h o => jv_O X M_X13_reach b0 jeI 4 [some (.ref (x0)), some (.int (x1)), some (.int (x2)), some (.int (x3))] [] h o) (fun R4 hR4 => ?_) (fun _ _ _ _ _  => jv_none rfl) jfu
  intro x0 x1 x2 x3 h
  unfold f_X13_reach_h4
  refine jv_iload_n (jv_dk t_X13_reach (k := 4) rfl) rfl rfl ?_
  refine jv_bipush (v := 16) (jv_dk t_X13_reach (k := 5) rfl) (by decide) ?_
  refine jv_icmp_ge (tgt := 43) (jv_dk t_X13_reach (k := 6) rfl) rfl (fun c1 => ?_) (fun c1 => ?_)
  · refine jv_le_row (jv_le_n (jv_le_n (jv_le_s (jv_le_n (jv_le_nil))))) ?_
    exact hK4 _ _ 
  · show jv_O _ _ _ _ 10 _ _ _ _
    refine jv_iload_n (jv_dk t_X13_reach (k := 7) rfl) rfl rfl ?_
    refine jv_aload_n (jv_dk t_X13_reach (k := 8) rfl) rfl rfl (Or.inr ⟨_, rfl⟩) ?_
    refine jv_iload_n (jv_dk t_X13_reach (k := 9) rfl) rfl rfl ?_
    refine jv_callV (en' := jeI) (pv := jpI) (As := [.int (x3)]) (S := [.int (x2)]) (jv_dk t_X13_reach (k := 10) rfl) (fun _ => rfl) (Or.inl lk_X13_289) me_X13_isThere mv_X13_isThere ⟨by decide, by decide⟩ rfl rfl rfl (Nat.le_of_ble_eq_true rfl) (P_X13_isThere X x0 x3 h) (fun v2 h3 => ?_)
    show jv_O X M_X13_reach _ jeI 16 [some (.ref (x0)), some (.int (x1)), some (.int (x2)), some (.int (x3))] [.int (v2), .int (x2)] h3 _
    refine jv_if_eq (tgt := 34) (jv_dk t_X13_reach (k := 11) rfl) rfl (fun c4 => ?_) (fun c4 => ?_)
    · refine jv_iconst (v := 0) (jv_dk t_X13_reach (k := 21) rfl) (by decide) ?_
      refine jv_ior (jv_dk t_X13_reach (k := 22) rfl) ?_
      refine jv_istore_n (L' := [some (.ref (x0)), some (.int (x1)), some (.int (x2 ||| 0)), some (.int (x3))]) (jv_dk t_X13_reach (k := 23) rfl) rfl (Nat.le_of_ble_eq_true rfl) rfl ?_
      refine jv_iinc (v := 1) (L' := [some (.ref (x0)), some (.int (x1)), some (.int (x2 ||| 0)), some (.int (x3 + 1))]) (jv_dk t_X13_reach (k := 24) rfl) rfl (by decide) rfl ?_
      refine jv_goto (tgt := 4) (jv_dk t_X13_reach (k := 25) rfl) rfl ?_
      exact hR4 _ _ _ _ _ 
    · show jv_O _ _ _ _ 19 _ _ _ _
      refine jv_aload_n (jv_dk t_X13_reach (k := 12) rfl) rfl rfl (Or.inr ⟨_, rfl⟩) ?_
      refine jv_iload_n (jv_dk t_X13_reach (k := 13) rfl) rfl rfl ?_
      refine jv_iload_n (jv_dk t_X13_reach (k := 14) rfl) rfl rfl ?_
      refine jv_callV (en' := jeI) (pv := jpI) (As := [.int (x1), .int (x3)]) (S := [.int (x2)]) (jv_dk t_X13_reach (k := 15) rfl) (fun _ => rfl) (Or.inl lk_X13_317) me_X13_canKill mv_X13_canKill ⟨by decide, by decide⟩ rfl rfl rfl (Nat.le_of_ble_eq_true rfl) (P_X13_canKill X x0 x1 x3 h3) (fun v5 h6 => ?_)
      show jv_O X M_X13_reach _ jeI 25 [some (.ref (x0)), some (.int (x1)), some (.int (x2)), some (.int (x3))] [.int (v5), .int (x2)] h6 _
      refine jv_if_eq (tgt := 34) (jv_dk t_X13_reach (k := 16) rfl) rfl (fun c7 => ?_) (fun c7 => ?_)
      · refine jv_iconst (v := 0) (jv_dk t_X13_reach (k := 21) rfl) (by decide) ?_
        refine jv_ior (jv_dk t_X13_reach (k := 22) rfl) ?_
        refine jv_istore_n (L' := [some (.ref (x0)), some (.int (x1)), some (.int (x2 ||| 0)), some (.int (x3))]) (jv_dk t_X13_reach (k := 23) rfl) rfl (Nat.le_of_ble_eq_true rfl) rfl ?_
        refine jv_iinc (v := 1) (L' := [some (.ref (x0)), some (.int (x1)), some (.int (x2 ||| 0)), some (.int (x3 + 1))]) (jv_dk t_X13_reach (k := 24) rfl) rfl (by decide) rfl ?_
        refine jv_goto (tgt := 4) (jv_dk t_X13_reach (k := 25) rfl) rfl ?_
        exact hR4 _ _ _ _ _ 
      · show jv_O _ _ _ _ 28 _ _ _ _
        refine jv_iconst (v := 1) (jv_dk t_X13_reach (k := 17) rfl) (by decide) ?_
        refine jv_iload_n (jv_dk t_X13_reach (k := 18) rfl) rfl rfl ?_
        refine jv_ishl (jv_dk t_X13_reach (k := 19) rfl) ?_
        refine jv_goto (tgt := 35) (jv_dk t_X13_reach (k := 20) rfl) rfl ?_
        refine jv_ior (jv_dk t_X13_reach (k := 22) rfl) ?_
        refine jv_istore_n (L' := [some (.ref (x0)), some (.int (x1)), some (.int (x2 ||| (1 <<< (x3 &&& 31)))), some (.int (x3))]) (jv_dk t_X13_reach (k := 23) rfl) rfl (Nat.le_of_ble_eq_true rfl) rfl ?_
        refine jv_iinc (v := 1) (L' := [some (.ref (x0)), some (.int (x1)), some (.int (x2 ||| (1 <<< (x3 &&& 31)))), some (.int (x3 + 1))]) (jv_dk t_X13_reach (k := 24) rfl) rfl (by decide) rfl ?_
        refine jv_goto (tgt := 4) (jv_dk t_X13_reach (k := 25) rfl) rfl ?_
        exact hR4 _ _ _ _ _ 
def f_X13_reach (a0 : Nat) (a1 : Int32) (h : jh) : Option (Int32 × jh) :=
  jlp4 (f_X13_reach_h4 (fun y9 h8 =>
  some (y9, h8))) jfu a0 a1 0 0 h
theorem P_X13_reach (X : jx) (a0 : Nat) (a1 : Int32) (h : jh) : jv_P X M_X13_reach jeI [.ref (a0), .int (a1)] h (f_X13_reach a0 a1 h) := by
  refine jv_P.of (by decide) rfl (by simp [Value.category]) (Nat.le_of_ble_eq_true rfl) ?_
  show jv_O X M_X13_reach (h.1, h.2.1) jeI 0 [some (.ref (a0)), some (.int (a1)), none, none] [] h (f_X13_reach a0 a1 h)
  unfold f_X13_reach
  refine jv_iconst (v := 0) (jv_dk t_X13_reach (k := 0) rfl) (by decide) ?_
  refine jv_istore_n (L' := [some (.ref (a0)), some (.int (a1)), some (.int (0)), none]) (jv_dk t_X13_reach (k := 1) rfl) rfl (Nat.le_of_ble_eq_true rfl) rfl ?_
  refine jv_iconst (v := 0) (jv_dk t_X13_reach (k := 2) rfl) (by decide) ?_
  refine jv_istore_n (L' := [some (.ref (a0)), some (.int (a1)), some (.int (0)), some (.int (0))]) (jv_dk t_X13_reach (k := 3) rfl) rfl (Nat.le_of_ble_eq_true rfl) rfl ?_
  refine o_f_X13_reach_h4 (fun y9 h8 => ?_) _ _ _ _ _ 
  show jv_O X M_X13_reach _ jeI 43 [none, none, some (.int (y9)), none] [] h8 _
  refine jv_iload_n (jv_dk t_X13_reach (k := 26) rfl) rfl rfl ?_
  exact jv_iret (ty := .int) (jv_dk t_X13_reach (k := 27) rfl) rfl rfl rfl
def t0_X13_state : List (Nat × Instr × Nat) := [(0, .bipush 8, 2), (2, .iconst 2, 1), (3, .iload_n 0, 1), (4, .imul, 1), (5, .iload_n 1, 1), (6, .iadd, 1), (7, .imul, 1), (8, .iload_n 2, 1), (9, .iadd, 1), (10, .ireturn, 1)]
theorem t_X13_state : jv_dec cX13_state t0_X13_state = true := by decide +kernel
def M_X13_state : jm := (yX13_state, cX13_state, 3, (some .int), 0, 0, [])
def f_X13_state (a0 : Int32) (a1 : Int32) (a2 : Int32) (h : jh) : Option (Int32 × jh) :=
  some ((8 * ((2 * a0) + a1)) + a2, h)
theorem P_X13_state (X : jx) (a0 : Int32) (a1 : Int32) (a2 : Int32) (h : jh) : jv_P X M_X13_state jeI [.int (a0), .int (a1), .int (a2)] h (f_X13_state a0 a1 a2 h) := by
  refine jv_P.of (by decide) rfl (by simp [Value.category]) (Nat.le_of_ble_eq_true rfl) ?_
  show jv_O X M_X13_state (h.1, h.2.1) jeI 0 [some (.int (a0)), some (.int (a1)), some (.int (a2))] [] h (f_X13_state a0 a1 a2 h)
  unfold f_X13_state
  refine jv_bipush (v := 8) (jv_dk t_X13_state (k := 0) rfl) (by decide) ?_
  refine jv_iconst (v := 2) (jv_dk t_X13_state (k := 1) rfl) (by decide) ?_
  refine jv_iload_n (jv_dk t_X13_state (k := 2) rfl) rfl rfl ?_
  refine jv_imul (jv_dk t_X13_state (k := 3) rfl) ?_
  refine jv_iload_n (jv_dk t_X13_state (k := 4) rfl) rfl rfl ?_
  refine jv_iadd (jv_dk t_X13_state (k := 5) rfl) ?_
  refine jv_imul (jv_dk t_X13_state (k := 6) rfl) ?_
  refine jv_iload_n (jv_dk t_X13_state (k := 7) rfl) rfl rfl ?_
  refine jv_iadd (jv_dk t_X13_state (k := 8) rfl) ?_
  exact jv_iret (ty := .int) (jv_dk t_X13_state (k := 9) rfl) rfl rfl rfl
def t0_X13_comesTo : List (Nat × Instr × Nat) := [(0, .aload_n 0, 1), (1, .getfield 63, 3), (4, .iload_n 1, 1), (5, .iaload, 1), (6, .ifCond .lt 5, 3), (9, .iconst 0, 1), (10, .ireturn, 1), (11, .aload_n 0, 1), (12, .getfield 63, 3), (15, .iload_n 1, 1), (16, .iload_n 2, 1), (17, .iastore, 1), (18, .iconst 1, 1), (19, .ireturn, 1)]
theorem t_X13_comesTo : jv_dec cX13_comesTo t0_X13_comesTo = true := by decide +kernel
def M_X13_comesTo : jm := (yX13_comesTo, cX13_comesTo, 3, (some .boolean), 0, 0, [])
def f_X13_comesTo (a0 : Nat) (a1 : Int32) (a2 : Int32) (h : jh) : Option (Int32 × jh) :=
  gR h a0 11 21 fun v1 =>
  aI h v1 a1 fun v2 =>
  (if v2 < 0 then
  gR h a0 11 21 fun v4 =>
  sI h v4 a1 a2 fun h5 =>
  some (1, h5)
  else
  some (0, h))
theorem P_X13_comesTo (X : jx) (a0 : Nat) (a1 : Int32) (a2 : Int32) (h : jh) : jv_P X M_X13_comesTo jeI [.ref (a0), .int (a1), .int (a2)] h (f_X13_comesTo a0 a1 a2 h) := by
  refine jv_P.of (by decide) rfl (by simp [Value.category]) (Nat.le_of_ble_eq_true rfl) ?_
  show jv_O X M_X13_comesTo (h.1, h.2.1) jeI 0 [some (.ref (a0)), some (.int (a1)), some (.int (a2))] [] h (f_X13_comesTo a0 a1 a2 h)
  unfold f_X13_comesTo
  refine jv_aload_n (jv_dk t_X13_comesTo (k := 0) rfl) rfl rfl (Or.inr ⟨_, rfl⟩) ?_
  refine jv_gR (jv_dk t_X13_comesTo (k := 1) rfl) fl_X13_63 (fun v1 => ?_)
  refine jv_iload_n (jv_dk t_X13_comesTo (k := 2) rfl) rfl rfl ?_
  refine jv_iaload (jv_dk t_X13_comesTo (k := 3) rfl) (fun v2 => ?_)
  refine jv_if_lt (tgt := 11) (jv_dk t_X13_comesTo (k := 4) rfl) rfl (fun c3 => ?_) (fun c3 => ?_)
  · refine jv_aload_n (jv_dk t_X13_comesTo (k := 7) rfl) rfl rfl (Or.inr ⟨_, rfl⟩) ?_
    refine jv_gR (jv_dk t_X13_comesTo (k := 8) rfl) fl_X13_63 (fun v4 => ?_)
    refine jv_iload_n (jv_dk t_X13_comesTo (k := 9) rfl) rfl rfl ?_
    refine jv_iload_n (jv_dk t_X13_comesTo (k := 10) rfl) rfl rfl ?_
    refine jv_iastore (jv_dk t_X13_comesTo (k := 11) rfl) (fun h5 => ?_)
    refine jv_iconst (v := 1) (jv_dk t_X13_comesTo (k := 12) rfl) (by decide) ?_
    exact jv_iret (ty := .boolean) (jv_dk t_X13_comesTo (k := 13) rfl) rfl rfl rfl
  · show jv_O _ _ _ _ 9 _ _ _ _
    refine jv_iconst (v := 0) (jv_dk t_X13_comesTo (k := 5) rfl) (by decide) ?_
    exact jv_iret (ty := .boolean) (jv_dk t_X13_comesTo (k := 6) rfl) rfl rfl rfl
def t0_X13_goesOn : List (Nat × Instr × Nat) := [(0, .iconst 0, 1), (1, .istore 6, 2), (3, .iconst 0, 1), (4, .istore 7, 2), (6, .iload 7, 2), (8, .bipush 16, 2), (10, .if_icmp .ge 176, 3), (13, .aload_n 0, 1), (14, .iload 7, 2), (16, .invokevirtual 289, 3), (19, .ifCond .eq 161, 3), (22, .iload 7, 2), (24, .iload_n 1, 1), (25, .if_icmp .eq 155, 3), (28, .aload_n 0, 1), (29, .iload_n 1, 1), (30, .iload 7, 2), (32, .invokevirtual 277, 3), (35, .ifCond .ne 6, 3), (38, .goto 142, 3), (41, .aload_n 0, 1), (42, .iload 7, 2), (44, .iconst 3, 1), (45, .invokevirtual 205, 3), (48, .istore 8, 2), (50, .aload_n 0, 1), (51, .iload 7, 2), (53, .iconst 4, 1), (54, .invokevirtual 205, 3), (57, .istore 9, 2), (59, .iload 8, 2), (61, .iload_n 2, 1), (62, .if_icmp .eq 52, 3), (65, .aload_n 0, 1), (66, .iload_n 2, 1), (67, .aload_n 0, 1), (68, .iload_n 1, 1), (69, .bipush 6, 2), (71, .invokevirtual 205, 3), (74, .iload_n 3, 1), (75, .iload 8, 2), (77, .invokevirtual 234, 3), (80, .ifCond .eq 34, 3), (83, .aload_n 0, 1), (84, .iload 8, 2), (86, .iconst 1, 1), (87, .iload 4, 2), (89, .invokestatic 356, 3), (92, .iload 5, 2), (94, .iconst 1, 1), (95, .iadd, 1), (96, .invokevirtual 359, 3), (99, .ifCond .ne 8, 3), (102, .iload 6, 2), (104, .ifCond .eq 7, 3), (107, .iconst 1, 1), (108, .goto 4, 3), (111, .iconst 0, 1), (112, .istore 6, 2), (114, .iload_n 3, 1), (115, .iconst 1, 1), (116, .if_icmp .ne 64, 3), (119, .iload 9, 2), (121, .iload 4, 2), (123, .if_icmp .eq 57, 3), (126, .aload_n 0, 1), (127, .iload_n 2, 1), (128, .aload_n 0, 1), (129, .iload_n 1, 1), (130, .bipush 6, 2), (132, .invokevirtual 205, 3), (135, .iload_n 3, 1), (136, .aload_n 0, 1), (137, .iconst 2, 1), (138, .iload 9, 2), (140, .iconst 2, 1), (141, .invokevirtual 217, 3), (144, .invokevirtual 234, 3), (147, .ifCond .eq 33, 3), (150, .aload_n 0, 1), (151, .iload_n 2, 1), (152, .iload_n 3, 1), (153, .iload 9, 2), (155, .invokestatic 356, 3), (158, .iload 5, 2), (160, .iconst 1, 1), (161, .iadd, 1), (162, .invokevirtual 359, 3), (165, .ifCond .ne 8, 3), (168, .iload 6, 2), (170, .ifCond .eq 7, 3), (173, .iconst 1, 1), (174, .goto 4, 3), (177, .iconst 0, 1), (178, .istore 6, 2), (180, .iinc 7 1, 3), (183, .goto (-177), 3), (186, .iload 6, 2), (188, .ireturn, 1)]
theorem t_X13_goesOn : jv_dec cX13_goesOn t0_X13_goesOn = true := by decide +kernel
def M_X13_goesOn : jm := (yX13_goesOn, cX13_goesOn, 10, (some .boolean), 3, 69, [])
theorem lk_X13_356 : Cond.methodLink RX13 356 M_X13_state.1 ∈ lw_tbl := (jv_at 1831 (by decide +kernel))
set_option maxRecDepth 20000 in
theorem me_X13_state : jv_me M_X13_state 3 := ⟨(jv_in7 (List.mem_of_getElem? (i := 233) rfl)), (jv_at 172 (by decide +kernel)), ⟨by decide, by decide⟩, by decide +kernel⟩
theorem lk_X13_359 : Cond.methodLink RX13 359 M_X13_comesTo.1 ∈ lw_tbl := (jv_at 1838 (by decide +kernel))
set_option maxRecDepth 20000 in
theorem me_X13_comesTo : jv_me M_X13_comesTo 2 := ⟨(jv_in8 (List.mem_of_getElem? (i := 1) rfl)), (jv_at 172 (by decide +kernel)), ⟨by decide, by decide⟩, by decide +kernel⟩
theorem mv_X13_comesTo : jv_mv M_X13_comesTo := ⟨(jv_at 1840 (by decide +kernel)), (jv_at 151 (by decide +kernel))⟩
theorem ms_X13_state : jv_ms M_X13_state := (jv_at 1832 (by decide +kernel))
def f_X13_goesOn_b114 (R6 : Nat → Int32 → Int32 → Int32 → Int32 → Int32 → Int32 → Int32 → jh → Option (Int32 × jh)) (K6 : Int32 → jh → Option (Int32 × jh)) (x0 : Nat) (x1 : Int32) (x2 : Int32) (x3 : Int32) (x4 : Int32) (x5 : Int32) (x6 : Int32) (x7 : Int32) (x9 : Int32) (h : jh) : Option (Int32 × jh) :=
  (if ¬ x3 = 1 then
  R6 x0 x1 x2 x3 x4 x5 x6 (x7 + 1) h
  else
  (if x9 = x4 then
  R6 x0 x1 x2 x3 x4 x5 x6 (x7 + 1) h
  else
  cV h x0 11 (f_X13_of x0 x1 6 h) fun v16 h17 =>
  cV h17 x0 11 (f_X13_spaceOf x0 2 x9 2 h17) fun v18 h19 =>
  cV h19 x0 11 (f_X13_hasOver x0 x2 v16 x3 v18 h19) fun v20 h21 =>
  (if v20 = 0 then
  R6 x0 x1 x2 x3 x4 x5 x6 (x7 + 1) h21
  else
  bd (f_X13_state x2 x3 x9 h21) fun v23 h24 =>
  cV h24 x0 11 (f_X13_comesTo x0 v23 (x5 + 1) h24) fun v25 h26 =>
  (if ¬ v25 = 0 then
  R6 x0 x1 x2 x3 x4 x5 1 (x7 + 1) h26
  else
  (if x6 = 0 then
  R6 x0 x1 x2 x3 x4 x5 0 (x7 + 1) h26
  else
  R6 x0 x1 x2 x3 x4 x5 1 (x7 + 1) h26)))))
theorem o_f_X13_goesOn_b114 {X : jx} {b0 : Nat × Nat} {R6 : Nat → Int32 → Int32 → Int32 → Int32 → Int32 → Int32 → Int32 → jh → Option (Int32 × jh)} {K6 : Int32 → jh → Option (Int32 × jh)} (hR6 : ∀ (x0 : Nat) (x1 : Int32) (x2 : Int32) (x3 : Int32) (x4 : Int32) (x5 : Int32) (x6 : Int32) (x7 : Int32) (h : jh), jv_O X M_X13_goesOn b0 jeI 6 [some (.ref (x0)), some (.int (x1)), some (.int (x2)), some (.int (x3)), some (.int (x4)), some (.int (x5)), some (.int (x6)), some (.int (x7)), none, none] [] h (R6 x0 x1 x2 x3 x4 x5 x6 x7 h)) (hK6 : ∀ (x6 : Int32) (h : jh), jv_O X M_X13_goesOn b0 jeI 186 [none, none, none, none, none, none, some (.int (x6)), none, none, none] [] h (K6 x6 h)) (x0 : Nat) (x1 : Int32) (x2 : Int32) (x3 : Int32) (x4 : Int32) (x5 : Int32) (x6 : Int32) (x7 : Int32) (x9 : Int32) (h : jh) : jv_O X M_X13_goesOn b0 jeI 114 [some (.ref (x0)), some (.int (x1)), some (.int (x2)), some (.int (x3)), some (.int (x4)), some (.int (x5)), some (.int (x6)), some (.int (x7)), none, some (.int (x9))] [] h (f_X13_goesOn_b114 R6 K6 x0 x1 x2 x3 x4 x5 x6 x7 x9 h) := by
  unfold f_X13_goesOn_b114
  refine jv_iload_n (jv_dk t_X13_goesOn (k := 59) rfl) rfl rfl ?_
  refine jv_iconst (v := 1) (jv_dk t_X13_goesOn (k := 60) rfl) (by decide) ?_
  refine jv_icmp_ne (tgt := 180) (jv_dk t_X13_goesOn (k := 61) rfl) rfl (fun c14 => ?_) (fun c14 => ?_)
  · refine jv_iinc (v := 1) (L' := [some (.ref (x0)), some (.int (x1)), some (.int (x2)), some (.int (x3)), some (.int (x4)), some (.int (x5)), some (.int (x6)), some (.int (x7 + 1)), none, some (.int (x9))]) (jv_dk t_X13_goesOn (k := 95) rfl) rfl (by decide) rfl ?_
    refine jv_goto (tgt := 6) (jv_dk t_X13_goesOn (k := 96) rfl) rfl ?_
    refine jv_le_row (jv_le_s (jv_le_s (jv_le_s (jv_le_s (jv_le_s (jv_le_s (jv_le_s (jv_le_s (jv_le_n (jv_le_n (jv_le_nil))))))))))) ?_
    exact hR6 _ _ _ _ _ _ _ _ _ 
  · show jv_O _ _ _ _ 119 _ _ _ _
    refine jv_iload (jv_dk t_X13_goesOn (k := 62) rfl) rfl ?_
    refine jv_iload (jv_dk t_X13_goesOn (k := 63) rfl) rfl ?_
    refine jv_icmp_eq (tgt := 180) (jv_dk t_X13_goesOn (k := 64) rfl) rfl (fun c15 => ?_) (fun c15 => ?_)
    · refine jv_iinc (v := 1) (L' := [some (.ref (x0)), some (.int (x1)), some (.int (x2)), some (.int (x3)), some (.int (x4)), some (.int (x5)), some (.int (x6)), some (.int (x7 + 1)), none, some (.int (x9))]) (jv_dk t_X13_goesOn (k := 95) rfl) rfl (by decide) rfl ?_
      refine jv_goto (tgt := 6) (jv_dk t_X13_goesOn (k := 96) rfl) rfl ?_
      refine jv_le_row (jv_le_s (jv_le_s (jv_le_s (jv_le_s (jv_le_s (jv_le_s (jv_le_s (jv_le_s (jv_le_n (jv_le_n (jv_le_nil))))))))))) ?_
      exact hR6 _ _ _ _ _ _ _ _ _ 
    · show jv_O _ _ _ _ 126 _ _ _ _
      refine jv_aload_n (jv_dk t_X13_goesOn (k := 65) rfl) rfl rfl (Or.inr ⟨_, rfl⟩) ?_
      refine jv_iload_n (jv_dk t_X13_goesOn (k := 66) rfl) rfl rfl ?_
      refine jv_aload_n (jv_dk t_X13_goesOn (k := 67) rfl) rfl rfl (Or.inr ⟨_, rfl⟩) ?_
      refine jv_iload_n (jv_dk t_X13_goesOn (k := 68) rfl) rfl rfl ?_
      refine jv_bipush (v := 6) (jv_dk t_X13_goesOn (k := 69) rfl) (by decide) ?_
      refine jv_callV (en' := jeI) (pv := jpI) (As := [.int (x1), .int (6)]) (S := [.int (x2), .ref (x0)]) (jv_dk t_X13_goesOn (k := 70) rfl) (fun _ => rfl) (Or.inl lk_X13_205) me_X13_of mv_X13_of ⟨by decide, by decide⟩ rfl rfl rfl (Nat.le_of_ble_eq_true rfl) (P_X13_of X x0 x1 6 h) (fun v16 h17 => ?_)
      show jv_O X M_X13_goesOn _ jeI 135 [some (.ref (x0)), some (.int (x1)), some (.int (x2)), some (.int (x3)), some (.int (x4)), some (.int (x5)), some (.int (x6)), some (.int (x7)), none, some (.int (x9))] [.int (v16), .int (x2), .ref (x0)] h17 _
      refine jv_iload_n (jv_dk t_X13_goesOn (k := 71) rfl) rfl rfl ?_
      refine jv_aload_n (jv_dk t_X13_goesOn (k := 72) rfl) rfl rfl (Or.inr ⟨_, rfl⟩) ?_
      refine jv_iconst (v := 2) (jv_dk t_X13_goesOn (k := 73) rfl) (by decide) ?_
      refine jv_iload (jv_dk t_X13_goesOn (k := 74) rfl) rfl ?_
      refine jv_iconst (v := 2) (jv_dk t_X13_goesOn (k := 75) rfl) (by decide) ?_
      refine jv_callV (en' := jeI) (pv := jpI) (As := [.int (2), .int (x9), .int (2)]) (S := [.int (x3), .int (v16), .int (x2), .ref (x0)]) (jv_dk t_X13_goesOn (k := 76) rfl) (fun _ => rfl) (Or.inl lk_X13_217) me_X13_spaceOf mv_X13_spaceOf ⟨by decide, by decide⟩ rfl rfl rfl (Nat.le_of_ble_eq_true rfl) (P_X13_spaceOf X x0 2 x9 2 h17) (fun v18 h19 => ?_)
      show jv_O X M_X13_goesOn _ jeI 144 [some (.ref (x0)), some (.int (x1)), some (.int (x2)), some (.int (x3)), some (.int (x4)), some (.int (x5)), some (.int (x6)), some (.int (x7)), none, some (.int (x9))] [.int (v18), .int (x3), .int (v16), .int (x2), .ref (x0)] h19 _
      refine jv_callV (en' := jeI) (pv := jpI) (As := [.int (x2), .int (v16), .int (x3), .int (v18)]) (S := []) (jv_dk t_X13_goesOn (k := 77) rfl) (fun _ => rfl) (Or.inl lk_X13_234) me_X13_hasOver mv_X13_hasOver ⟨by decide, by decide⟩ rfl rfl rfl (Nat.le_of_ble_eq_true rfl) (P_X13_hasOver X x0 x2 v16 x3 v18 h19) (fun v20 h21 => ?_)
      show jv_O X M_X13_goesOn _ jeI 147 [some (.ref (x0)), some (.int (x1)), some (.int (x2)), some (.int (x3)), some (.int (x4)), some (.int (x5)), some (.int (x6)), some (.int (x7)), none, some (.int (x9))] [.int (v20)] h21 _
      refine jv_if_eq (tgt := 180) (jv_dk t_X13_goesOn (k := 78) rfl) rfl (fun c22 => ?_) (fun c22 => ?_)
      · refine jv_iinc (v := 1) (L' := [some (.ref (x0)), some (.int (x1)), some (.int (x2)), some (.int (x3)), some (.int (x4)), some (.int (x5)), some (.int (x6)), some (.int (x7 + 1)), none, some (.int (x9))]) (jv_dk t_X13_goesOn (k := 95) rfl) rfl (by decide) rfl ?_
        refine jv_goto (tgt := 6) (jv_dk t_X13_goesOn (k := 96) rfl) rfl ?_
        refine jv_le_row (jv_le_s (jv_le_s (jv_le_s (jv_le_s (jv_le_s (jv_le_s (jv_le_s (jv_le_s (jv_le_n (jv_le_n (jv_le_nil))))))))))) ?_
        exact hR6 _ _ _ _ _ _ _ _ _ 
      · show jv_O _ _ _ _ 150 _ _ _ _
        refine jv_aload_n (jv_dk t_X13_goesOn (k := 79) rfl) rfl rfl (Or.inr ⟨_, rfl⟩) ?_
        refine jv_iload_n (jv_dk t_X13_goesOn (k := 80) rfl) rfl rfl ?_
        refine jv_iload_n (jv_dk t_X13_goesOn (k := 81) rfl) rfl rfl ?_
        refine jv_iload (jv_dk t_X13_goesOn (k := 82) rfl) rfl ?_
        refine jv_callS (en' := jeI) (pv := jpI) (As := [.int (x2), .int (x3), .int (x9)]) (S := [.ref (x0)]) (jv_dk t_X13_goesOn (k := 83) rfl) (fun _ => rfl) (Or.inl lk_X13_356) me_X13_state ms_X13_state ⟨by decide, by decide⟩ rfl rfl (Nat.le_of_ble_eq_true rfl) (P_X13_state X x2 x3 x9 h21) (fun v23 h24 => ?_)
        show jv_O X M_X13_goesOn _ jeI 158 [some (.ref (x0)), some (.int (x1)), some (.int (x2)), some (.int (x3)), some (.int (x4)), some (.int (x5)), some (.int (x6)), some (.int (x7)), none, some (.int (x9))] [.int (v23), .ref (x0)] h24 _
        refine jv_iload (jv_dk t_X13_goesOn (k := 84) rfl) rfl ?_
        refine jv_iconst (v := 1) (jv_dk t_X13_goesOn (k := 85) rfl) (by decide) ?_
        refine jv_iadd (jv_dk t_X13_goesOn (k := 86) rfl) ?_
        refine jv_callV (en' := jeI) (pv := jpI) (As := [.int (v23), .int (x5 + 1)]) (S := []) (jv_dk t_X13_goesOn (k := 87) rfl) (fun _ => rfl) (Or.inl lk_X13_359) me_X13_comesTo mv_X13_comesTo ⟨by decide, by decide⟩ rfl rfl rfl (Nat.le_of_ble_eq_true rfl) (P_X13_comesTo X x0 v23 (x5 + 1) h24) (fun v25 h26 => ?_)
        show jv_O X M_X13_goesOn _ jeI 165 [some (.ref (x0)), some (.int (x1)), some (.int (x2)), some (.int (x3)), some (.int (x4)), some (.int (x5)), some (.int (x6)), some (.int (x7)), none, some (.int (x9))] [.int (v25)] h26 _
        refine jv_if_ne (tgt := 173) (jv_dk t_X13_goesOn (k := 88) rfl) rfl (fun c27 => ?_) (fun c27 => ?_)
        · refine jv_iconst (v := 1) (jv_dk t_X13_goesOn (k := 91) rfl) (by decide) ?_
          refine jv_goto (tgt := 178) (jv_dk t_X13_goesOn (k := 92) rfl) rfl ?_
          refine jv_istore (L' := [some (.ref (x0)), some (.int (x1)), some (.int (x2)), some (.int (x3)), some (.int (x4)), some (.int (x5)), some (.int (1)), some (.int (x7)), none, some (.int (x9))]) (jv_dk t_X13_goesOn (k := 94) rfl) (Nat.le_of_ble_eq_true rfl) rfl ?_
          refine jv_iinc (v := 1) (L' := [some (.ref (x0)), some (.int (x1)), some (.int (x2)), some (.int (x3)), some (.int (x4)), some (.int (x5)), some (.int (1)), some (.int (x7 + 1)), none, some (.int (x9))]) (jv_dk t_X13_goesOn (k := 95) rfl) rfl (by decide) rfl ?_
          refine jv_goto (tgt := 6) (jv_dk t_X13_goesOn (k := 96) rfl) rfl ?_
          refine jv_le_row (jv_le_s (jv_le_s (jv_le_s (jv_le_s (jv_le_s (jv_le_s (jv_le_s (jv_le_s (jv_le_n (jv_le_n (jv_le_nil))))))))))) ?_
          exact hR6 _ _ _ _ _ _ _ _ _ 
        · show jv_O _ _ _ _ 168 _ _ _ _
          refine jv_iload (jv_dk t_X13_goesOn (k := 89) rfl) rfl ?_
          refine jv_if_eq (tgt := 177) (jv_dk t_X13_goesOn (k := 90) rfl) rfl (fun c28 => ?_) (fun c28 => ?_)
          · refine jv_iconst (v := 0) (jv_dk t_X13_goesOn (k := 93) rfl) (by decide) ?_
            refine jv_istore (L' := [some (.ref (x0)), some (.int (x1)), some (.int (x2)), some (.int (x3)), some (.int (x4)), some (.int (x5)), some (.int (0)), some (.int (x7)), none, some (.int (x9))]) (jv_dk t_X13_goesOn (k := 94) rfl) (Nat.le_of_ble_eq_true rfl) rfl ?_
            refine jv_iinc (v := 1) (L' := [some (.ref (x0)), some (.int (x1)), some (.int (x2)), some (.int (x3)), some (.int (x4)), some (.int (x5)), some (.int (0)), some (.int (x7 + 1)), none, some (.int (x9))]) (jv_dk t_X13_goesOn (k := 95) rfl) rfl (by decide) rfl ?_
            refine jv_goto (tgt := 6) (jv_dk t_X13_goesOn (k := 96) rfl) rfl ?_
            refine jv_le_row (jv_le_s (jv_le_s (jv_le_s (jv_le_s (jv_le_s (jv_le_s (jv_le_s (jv_le_s (jv_le_n (jv_le_n (jv_le_nil))))))))))) ?_
            exact hR6 _ _ _ _ _ _ _ _ _ 
          · show jv_O _ _ _ _ 173 _ _ _ _
            refine jv_iconst (v := 1) (jv_dk t_X13_goesOn (k := 91) rfl) (by decide) ?_
            refine jv_goto (tgt := 178) (jv_dk t_X13_goesOn (k := 92) rfl) rfl ?_
            refine jv_istore (L' := [some (.ref (x0)), some (.int (x1)), some (.int (x2)), some (.int (x3)), some (.int (x4)), some (.int (x5)), some (.int (1)), some (.int (x7)), none, some (.int (x9))]) (jv_dk t_X13_goesOn (k := 94) rfl) (Nat.le_of_ble_eq_true rfl) rfl ?_
            refine jv_iinc (v := 1) (L' := [some (.ref (x0)), some (.int (x1)), some (.int (x2)), some (.int (x3)), some (.int (x4)), some (.int (x5)), some (.int (1)), some (.int (x7 + 1)), none, some (.int (x9))]) (jv_dk t_X13_goesOn (k := 95) rfl) rfl (by decide) rfl ?_
            refine jv_goto (tgt := 6) (jv_dk t_X13_goesOn (k := 96) rfl) rfl ?_
            refine jv_le_row (jv_le_s (jv_le_s (jv_le_s (jv_le_s (jv_le_s (jv_le_s (jv_le_s (jv_le_s (jv_le_n (jv_le_n (jv_le_nil))))))))))) ?_
            exact hR6 _ _ _ _ _ _ _ _ _ 
def f_X13_goesOn_h6 (K6 : Int32 → jh → Option (Int32 × jh)) (R6 : Nat → Int32 → Int32 → Int32 → Int32 → Int32 → Int32 → Int32 → jh → Option (Int32 × jh)) (x0 : Nat) (x1 : Int32) (x2 : Int32) (x3 : Int32) (x4 : Int32) (x5 : Int32) (x6 : Int32) (x7 : Int32) (h : jh) : Option (Int32 × jh) :=
  (if 16 ≤ x7 then
  K6 x6 h
  else
  cV h x0 11 (f_X13_isThere x0 x7 h) fun v2 h3 =>
  (if v2 = 0 then
  R6 x0 x1 x2 x3 x4 x5 x6 (x7 + 1) h3
  else
  (if x7 = x1 then
  R6 x0 x1 x2 x3 x4 x5 x6 (x7 + 1) h3
  else
  cV h3 x0 11 (f_X13_sees x0 x1 x7 h3) fun v6 h7 =>
  (if ¬ v6 = 0 then
  cV h7 x0 11 (f_X13_of x0 x7 3 h7) fun v9 h10 =>
  cV h10 x0 11 (f_X13_of x0 x7 4 h10) fun v11 h12 =>
  (if v9 = x2 then
  f_X13_goesOn_b114 R6 K6 x0 x1 x2 x3 x4 x5 x6 x7 v11 h12
  else
  cV h12 x0 11 (f_X13_of x0 x1 6 h12) fun v29 h30 =>
  cV h30 x0 11 (f_X13_hasOver x0 x2 v29 x3 v9 h30) fun v31 h32 =>
  (if v31 = 0 then
  f_X13_goesOn_b114 R6 K6 x0 x1 x2 x3 x4 x5 x6 x7 v11 h32
  else
  bd (f_X13_state v9 1 x4 h32) fun v34 h35 =>
  cV h35 x0 11 (f_X13_comesTo x0 v34 (x5 + 1) h35) fun v36 h37 =>
  (if ¬ v36 = 0 then
  f_X13_goesOn_b114 R6 K6 x0 x1 x2 x3 x4 x5 1 x7 v11 h37
  else
  (if x6 = 0 then
  f_X13_goesOn_b114 R6 K6 x0 x1 x2 x3 x4 x5 0 x7 v11 h37
  else
  f_X13_goesOn_b114 R6 K6 x0 x1 x2 x3 x4 x5 1 x7 v11 h37))))
  else
  R6 x0 x1 x2 x3 x4 x5 x6 (x7 + 1) h7))))
theorem o_f_X13_goesOn_h6 {X : jx} {b0 : Nat × Nat} {K6 : Int32 → jh → Option (Int32 × jh)} (hK6 : ∀ (x6 : Int32) (h : jh), jv_O X M_X13_goesOn b0 jeI 186 [none, none, none, none, none, none, some (.int (x6)), none, none, none] [] h (K6 x6 h)) : ∀ (x0 : Nat) (x1 : Int32) (x2 : Int32) (x3 : Int32) (x4 : Int32) (x5 : Int32) (x6 : Int32) (x7 : Int32) (h : jh), jv_O X M_X13_goesOn b0 jeI 6 [some (.ref (x0)), some (.int (x1)), some (.int (x2)), some (.int (x3)), some (.int (x4)), some (.int (x5)), some (.int (x6)), some (.int (x7)), none, none] [] h (jlp8 (f_X13_goesOn_h6 K6) jfu x0 x1 x2 x3 x4 x5 x6 x7 h) := by
  refine jlp8_ok (P := fun x0 x1 x2 x3 x4 x5 x6 x7 h o => jv_O X M_X13_goesOn b0 jeI 6 [some (.ref (x0)), some (.int (x1)), some (.int (x2)), some (.int (x3)), some (.int (x4)), some (.int (x5)), some (.int (x6)), some (.int (x7)), none, none] [] h o) (fun R6 hR6 => ?_) (fun _ _ _ _ _ _ _ _ _  => jv_none rfl) jfu
  intro x0 x1 x2 x3 x4 x5 x6 x7 h
  unfold f_X13_goesOn_h6
  refine jv_iload (jv_dk t_X13_goesOn (k := 4) rfl) rfl ?_
  refine jv_bipush (v := 16) (jv_dk t_X13_goesOn (k := 5) rfl) (by decide) ?_
  refine jv_icmp_ge (tgt := 186) (jv_dk t_X13_goesOn (k := 6) rfl) rfl (fun c1 => ?_) (fun c1 => ?_)
  · refine jv_le_row (jv_le_n (jv_le_n (jv_le_n (jv_le_n (jv_le_n (jv_le_n (jv_le_s (jv_le_n (jv_le_n (jv_le_n (jv_le_nil))))))))))) ?_
    exact hK6 _ _ 
  · show jv_O _ _ _ _ 13 _ _ _ _
    refine jv_aload_n (jv_dk t_X13_goesOn (k := 7) rfl) rfl rfl (Or.inr ⟨_, rfl⟩) ?_
    refine jv_iload (jv_dk t_X13_goesOn (k := 8) rfl) rfl ?_
    refine jv_callV (en' := jeI) (pv := jpI) (As := [.int (x7)]) (S := []) (jv_dk t_X13_goesOn (k := 9) rfl) (fun _ => rfl) (Or.inl lk_X13_289) me_X13_isThere mv_X13_isThere ⟨by decide, by decide⟩ rfl rfl rfl (Nat.le_of_ble_eq_true rfl) (P_X13_isThere X x0 x7 h) (fun v2 h3 => ?_)
    show jv_O X M_X13_goesOn _ jeI 19 [some (.ref (x0)), some (.int (x1)), some (.int (x2)), some (.int (x3)), some (.int (x4)), some (.int (x5)), some (.int (x6)), some (.int (x7)), none, none] [.int (v2)] h3 _
    refine jv_if_eq (tgt := 180) (jv_dk t_X13_goesOn (k := 10) rfl) rfl (fun c4 => ?_) (fun c4 => ?_)
    · refine jv_iinc (v := 1) (L' := [some (.ref (x0)), some (.int (x1)), some (.int (x2)), some (.int (x3)), some (.int (x4)), some (.int (x5)), some (.int (x6)), some (.int (x7 + 1)), none, none]) (jv_dk t_X13_goesOn (k := 95) rfl) rfl (by decide) rfl ?_
      refine jv_goto (tgt := 6) (jv_dk t_X13_goesOn (k := 96) rfl) rfl ?_
      exact hR6 _ _ _ _ _ _ _ _ _ 
    · show jv_O _ _ _ _ 22 _ _ _ _
      refine jv_iload (jv_dk t_X13_goesOn (k := 11) rfl) rfl ?_
      refine jv_iload_n (jv_dk t_X13_goesOn (k := 12) rfl) rfl rfl ?_
      refine jv_icmp_eq (tgt := 180) (jv_dk t_X13_goesOn (k := 13) rfl) rfl (fun c5 => ?_) (fun c5 => ?_)
      · refine jv_iinc (v := 1) (L' := [some (.ref (x0)), some (.int (x1)), some (.int (x2)), some (.int (x3)), some (.int (x4)), some (.int (x5)), some (.int (x6)), some (.int (x7 + 1)), none, none]) (jv_dk t_X13_goesOn (k := 95) rfl) rfl (by decide) rfl ?_
        refine jv_goto (tgt := 6) (jv_dk t_X13_goesOn (k := 96) rfl) rfl ?_
        exact hR6 _ _ _ _ _ _ _ _ _ 
      · show jv_O _ _ _ _ 28 _ _ _ _
        refine jv_aload_n (jv_dk t_X13_goesOn (k := 14) rfl) rfl rfl (Or.inr ⟨_, rfl⟩) ?_
        refine jv_iload_n (jv_dk t_X13_goesOn (k := 15) rfl) rfl rfl ?_
        refine jv_iload (jv_dk t_X13_goesOn (k := 16) rfl) rfl ?_
        refine jv_callV (en' := jeI) (pv := jpI) (As := [.int (x1), .int (x7)]) (S := []) (jv_dk t_X13_goesOn (k := 17) rfl) (fun _ => rfl) (Or.inl lk_X13_277) me_X13_sees mv_X13_sees ⟨by decide, by decide⟩ rfl rfl rfl (Nat.le_of_ble_eq_true rfl) (P_X13_sees X x0 x1 x7 h3) (fun v6 h7 => ?_)
        show jv_O X M_X13_goesOn _ jeI 35 [some (.ref (x0)), some (.int (x1)), some (.int (x2)), some (.int (x3)), some (.int (x4)), some (.int (x5)), some (.int (x6)), some (.int (x7)), none, none] [.int (v6)] h7 _
        refine jv_if_ne (tgt := 41) (jv_dk t_X13_goesOn (k := 18) rfl) rfl (fun c8 => ?_) (fun c8 => ?_)
        · refine jv_aload_n (jv_dk t_X13_goesOn (k := 20) rfl) rfl rfl (Or.inr ⟨_, rfl⟩) ?_
          refine jv_iload (jv_dk t_X13_goesOn (k := 21) rfl) rfl ?_
          refine jv_iconst (v := 3) (jv_dk t_X13_goesOn (k := 22) rfl) (by decide) ?_
          refine jv_callV (en' := jeI) (pv := jpI) (As := [.int (x7), .int (3)]) (S := []) (jv_dk t_X13_goesOn (k := 23) rfl) (fun _ => rfl) (Or.inl lk_X13_205) me_X13_of mv_X13_of ⟨by decide, by decide⟩ rfl rfl rfl (Nat.le_of_ble_eq_true rfl) (P_X13_of X x0 x7 3 h7) (fun v9 h10 => ?_)
          show jv_O X M_X13_goesOn _ jeI 48 [some (.ref (x0)), some (.int (x1)), some (.int (x2)), some (.int (x3)), some (.int (x4)), some (.int (x5)), some (.int (x6)), some (.int (x7)), none, none] [.int (v9)] h10 _
          refine jv_istore (L' := [some (.ref (x0)), some (.int (x1)), some (.int (x2)), some (.int (x3)), some (.int (x4)), some (.int (x5)), some (.int (x6)), some (.int (x7)), some (.int (v9)), none]) (jv_dk t_X13_goesOn (k := 24) rfl) (Nat.le_of_ble_eq_true rfl) rfl ?_
          refine jv_aload_n (jv_dk t_X13_goesOn (k := 25) rfl) rfl rfl (Or.inr ⟨_, rfl⟩) ?_
          refine jv_iload (jv_dk t_X13_goesOn (k := 26) rfl) rfl ?_
          refine jv_iconst (v := 4) (jv_dk t_X13_goesOn (k := 27) rfl) (by decide) ?_
          refine jv_callV (en' := jeI) (pv := jpI) (As := [.int (x7), .int (4)]) (S := []) (jv_dk t_X13_goesOn (k := 28) rfl) (fun _ => rfl) (Or.inl lk_X13_205) me_X13_of mv_X13_of ⟨by decide, by decide⟩ rfl rfl rfl (Nat.le_of_ble_eq_true rfl) (P_X13_of X x0 x7 4 h10) (fun v11 h12 => ?_)
          show jv_O X M_X13_goesOn _ jeI 57 [some (.ref (x0)), some (.int (x1)), some (.int (x2)), some (.int (x3)), some (.int (x4)), some (.int (x5)), some (.int (x6)), some (.int (x7)), some (.int (v9)), none] [.int (v11)] h12 _
          refine jv_istore (L' := [some (.ref (x0)), some (.int (x1)), some (.int (x2)), some (.int (x3)), some (.int (x4)), some (.int (x5)), some (.int (x6)), some (.int (x7)), some (.int (v9)), some (.int (v11))]) (jv_dk t_X13_goesOn (k := 29) rfl) (Nat.le_of_ble_eq_true rfl) rfl ?_
          refine jv_iload (jv_dk t_X13_goesOn (k := 30) rfl) rfl ?_
          refine jv_iload_n (jv_dk t_X13_goesOn (k := 31) rfl) rfl rfl ?_
          refine jv_icmp_eq (tgt := 114) (jv_dk t_X13_goesOn (k := 32) rfl) rfl (fun c13 => ?_) (fun c13 => ?_)
          · refine jv_le_row (jv_le_s (jv_le_s (jv_le_s (jv_le_s (jv_le_s (jv_le_s (jv_le_s (jv_le_s (jv_le_n (jv_le_s (jv_le_nil))))))))))) ?_
            exact o_f_X13_goesOn_b114 hR6 hK6 _ _ _ _ _ _ _ _ _ _ 
          · show jv_O _ _ _ _ 65 _ _ _ _
            refine jv_aload_n (jv_dk t_X13_goesOn (k := 33) rfl) rfl rfl (Or.inr ⟨_, rfl⟩) ?_
            refine jv_iload_n (jv_dk t_X13_goesOn (k := 34) rfl) rfl rfl ?_
            refine jv_aload_n (jv_dk t_X13_goesOn (k := 35) rfl) rfl rfl (Or.inr ⟨_, rfl⟩) ?_
            refine jv_iload_n (jv_dk t_X13_goesOn (k := 36) rfl) rfl rfl ?_
            refine jv_bipush (v := 6) (jv_dk t_X13_goesOn (k := 37) rfl) (by decide) ?_
            refine jv_callV (en' := jeI) (pv := jpI) (As := [.int (x1), .int (6)]) (S := [.int (x2), .ref (x0)]) (jv_dk t_X13_goesOn (k := 38) rfl) (fun _ => rfl) (Or.inl lk_X13_205) me_X13_of mv_X13_of ⟨by decide, by decide⟩ rfl rfl rfl (Nat.le_of_ble_eq_true rfl) (P_X13_of X x0 x1 6 h12) (fun v29 h30 => ?_)
            show jv_O X M_X13_goesOn _ jeI 74 [some (.ref (x0)), some (.int (x1)), some (.int (x2)), some (.int (x3)), some (.int (x4)), some (.int (x5)), some (.int (x6)), some (.int (x7)), some (.int (v9)), some (.int (v11))] [.int (v29), .int (x2), .ref (x0)] h30 _
            refine jv_iload_n (jv_dk t_X13_goesOn (k := 39) rfl) rfl rfl ?_
            refine jv_iload (jv_dk t_X13_goesOn (k := 40) rfl) rfl ?_
            refine jv_callV (en' := jeI) (pv := jpI) (As := [.int (x2), .int (v29), .int (x3), .int (v9)]) (S := []) (jv_dk t_X13_goesOn (k := 41) rfl) (fun _ => rfl) (Or.inl lk_X13_234) me_X13_hasOver mv_X13_hasOver ⟨by decide, by decide⟩ rfl rfl rfl (Nat.le_of_ble_eq_true rfl) (P_X13_hasOver X x0 x2 v29 x3 v9 h30) (fun v31 h32 => ?_)
            show jv_O X M_X13_goesOn _ jeI 80 [some (.ref (x0)), some (.int (x1)), some (.int (x2)), some (.int (x3)), some (.int (x4)), some (.int (x5)), some (.int (x6)), some (.int (x7)), some (.int (v9)), some (.int (v11))] [.int (v31)] h32 _
            refine jv_if_eq (tgt := 114) (jv_dk t_X13_goesOn (k := 42) rfl) rfl (fun c33 => ?_) (fun c33 => ?_)
            · refine jv_le_row (jv_le_s (jv_le_s (jv_le_s (jv_le_s (jv_le_s (jv_le_s (jv_le_s (jv_le_s (jv_le_n (jv_le_s (jv_le_nil))))))))))) ?_
              exact o_f_X13_goesOn_b114 hR6 hK6 _ _ _ _ _ _ _ _ _ _ 
            · show jv_O _ _ _ _ 83 _ _ _ _
              refine jv_aload_n (jv_dk t_X13_goesOn (k := 43) rfl) rfl rfl (Or.inr ⟨_, rfl⟩) ?_
              refine jv_iload (jv_dk t_X13_goesOn (k := 44) rfl) rfl ?_
              refine jv_iconst (v := 1) (jv_dk t_X13_goesOn (k := 45) rfl) (by decide) ?_
              refine jv_iload (jv_dk t_X13_goesOn (k := 46) rfl) rfl ?_
              refine jv_callS (en' := jeI) (pv := jpI) (As := [.int (v9), .int (1), .int (x4)]) (S := [.ref (x0)]) (jv_dk t_X13_goesOn (k := 47) rfl) (fun _ => rfl) (Or.inl lk_X13_356) me_X13_state ms_X13_state ⟨by decide, by decide⟩ rfl rfl (Nat.le_of_ble_eq_true rfl) (P_X13_state X v9 1 x4 h32) (fun v34 h35 => ?_)
              show jv_O X M_X13_goesOn _ jeI 92 [some (.ref (x0)), some (.int (x1)), some (.int (x2)), some (.int (x3)), some (.int (x4)), some (.int (x5)), some (.int (x6)), some (.int (x7)), some (.int (v9)), some (.int (v11))] [.int (v34), .ref (x0)] h35 _
              refine jv_iload (jv_dk t_X13_goesOn (k := 48) rfl) rfl ?_
              refine jv_iconst (v := 1) (jv_dk t_X13_goesOn (k := 49) rfl) (by decide) ?_
              refine jv_iadd (jv_dk t_X13_goesOn (k := 50) rfl) ?_
              refine jv_callV (en' := jeI) (pv := jpI) (As := [.int (v34), .int (x5 + 1)]) (S := []) (jv_dk t_X13_goesOn (k := 51) rfl) (fun _ => rfl) (Or.inl lk_X13_359) me_X13_comesTo mv_X13_comesTo ⟨by decide, by decide⟩ rfl rfl rfl (Nat.le_of_ble_eq_true rfl) (P_X13_comesTo X x0 v34 (x5 + 1) h35) (fun v36 h37 => ?_)
              show jv_O X M_X13_goesOn _ jeI 99 [some (.ref (x0)), some (.int (x1)), some (.int (x2)), some (.int (x3)), some (.int (x4)), some (.int (x5)), some (.int (x6)), some (.int (x7)), some (.int (v9)), some (.int (v11))] [.int (v36)] h37 _
              refine jv_if_ne (tgt := 107) (jv_dk t_X13_goesOn (k := 52) rfl) rfl (fun c38 => ?_) (fun c38 => ?_)
              · refine jv_iconst (v := 1) (jv_dk t_X13_goesOn (k := 55) rfl) (by decide) ?_
                refine jv_goto (tgt := 112) (jv_dk t_X13_goesOn (k := 56) rfl) rfl ?_
                refine jv_istore (L' := [some (.ref (x0)), some (.int (x1)), some (.int (x2)), some (.int (x3)), some (.int (x4)), some (.int (x5)), some (.int (1)), some (.int (x7)), some (.int (v9)), some (.int (v11))]) (jv_dk t_X13_goesOn (k := 58) rfl) (Nat.le_of_ble_eq_true rfl) rfl ?_
                refine jv_le_row (jv_le_s (jv_le_s (jv_le_s (jv_le_s (jv_le_s (jv_le_s (jv_le_s (jv_le_s (jv_le_n (jv_le_s (jv_le_nil))))))))))) ?_
                exact o_f_X13_goesOn_b114 hR6 hK6 _ _ _ _ _ _ _ _ _ _ 
              · show jv_O _ _ _ _ 102 _ _ _ _
                refine jv_iload (jv_dk t_X13_goesOn (k := 53) rfl) rfl ?_
                refine jv_if_eq (tgt := 111) (jv_dk t_X13_goesOn (k := 54) rfl) rfl (fun c39 => ?_) (fun c39 => ?_)
                · refine jv_iconst (v := 0) (jv_dk t_X13_goesOn (k := 57) rfl) (by decide) ?_
                  refine jv_istore (L' := [some (.ref (x0)), some (.int (x1)), some (.int (x2)), some (.int (x3)), some (.int (x4)), some (.int (x5)), some (.int (0)), some (.int (x7)), some (.int (v9)), some (.int (v11))]) (jv_dk t_X13_goesOn (k := 58) rfl) (Nat.le_of_ble_eq_true rfl) rfl ?_
                  refine jv_le_row (jv_le_s (jv_le_s (jv_le_s (jv_le_s (jv_le_s (jv_le_s (jv_le_s (jv_le_s (jv_le_n (jv_le_s (jv_le_nil))))))))))) ?_
                  exact o_f_X13_goesOn_b114 hR6 hK6 _ _ _ _ _ _ _ _ _ _ 
                · show jv_O _ _ _ _ 107 _ _ _ _
                  refine jv_iconst (v := 1) (jv_dk t_X13_goesOn (k := 55) rfl) (by decide) ?_
                  refine jv_goto (tgt := 112) (jv_dk t_X13_goesOn (k := 56) rfl) rfl ?_
                  refine jv_istore (L' := [some (.ref (x0)), some (.int (x1)), some (.int (x2)), some (.int (x3)), some (.int (x4)), some (.int (x5)), some (.int (1)), some (.int (x7)), some (.int (v9)), some (.int (v11))]) (jv_dk t_X13_goesOn (k := 58) rfl) (Nat.le_of_ble_eq_true rfl) rfl ?_
                  refine jv_le_row (jv_le_s (jv_le_s (jv_le_s (jv_le_s (jv_le_s (jv_le_s (jv_le_s (jv_le_s (jv_le_n (jv_le_s (jv_le_nil))))))))))) ?_
                  exact o_f_X13_goesOn_b114 hR6 hK6 _ _ _ _ _ _ _ _ _ _ 
        · show jv_O _ _ _ _ 38 _ _ _ _
          refine jv_goto (tgt := 180) (jv_dk t_X13_goesOn (k := 19) rfl) rfl ?_
          refine jv_iinc (v := 1) (L' := [some (.ref (x0)), some (.int (x1)), some (.int (x2)), some (.int (x3)), some (.int (x4)), some (.int (x5)), some (.int (x6)), some (.int (x7 + 1)), none, none]) (jv_dk t_X13_goesOn (k := 95) rfl) rfl (by decide) rfl ?_
          refine jv_goto (tgt := 6) (jv_dk t_X13_goesOn (k := 96) rfl) rfl ?_
          exact hR6 _ _ _ _ _ _ _ _ _ 
def f_X13_goesOn (a0 : Nat) (a1 : Int32) (a2 : Int32) (a3 : Int32) (a4 : Int32) (a5 : Int32) (h : jh) : Option (Int32 × jh) :=
  jlp8 (f_X13_goesOn_h6 (fun y41 h40 =>
  jz y41 h40)) jfu a0 a1 a2 a3 a4 a5 0 0 h
theorem P_X13_goesOn (X : jx) (a0 : Nat) (a1 : Int32) (a2 : Int32) (a3 : Int32) (a4 : Int32) (a5 : Int32) (h : jh) : jv_P X M_X13_goesOn jeI [.ref (a0), .int (a1), .int (a2), .int (a3), .int (a4), .int (a5)] h (f_X13_goesOn a0 a1 a2 a3 a4 a5 h) := by
  refine jv_P.of (by decide) rfl (by simp [Value.category]) (Nat.le_of_ble_eq_true rfl) ?_
  show jv_O X M_X13_goesOn (h.1, h.2.1) jeI 0 [some (.ref (a0)), some (.int (a1)), some (.int (a2)), some (.int (a3)), some (.int (a4)), some (.int (a5)), none, none, none, none] [] h (f_X13_goesOn a0 a1 a2 a3 a4 a5 h)
  unfold f_X13_goesOn
  refine jv_iconst (v := 0) (jv_dk t_X13_goesOn (k := 0) rfl) (by decide) ?_
  refine jv_istore (L' := [some (.ref (a0)), some (.int (a1)), some (.int (a2)), some (.int (a3)), some (.int (a4)), some (.int (a5)), some (.int (0)), none, none, none]) (jv_dk t_X13_goesOn (k := 1) rfl) (Nat.le_of_ble_eq_true rfl) rfl ?_
  refine jv_iconst (v := 0) (jv_dk t_X13_goesOn (k := 2) rfl) (by decide) ?_
  refine jv_istore (L' := [some (.ref (a0)), some (.int (a1)), some (.int (a2)), some (.int (a3)), some (.int (a4)), some (.int (a5)), some (.int (0)), some (.int (0)), none, none]) (jv_dk t_X13_goesOn (k := 3) rfl) (Nat.le_of_ble_eq_true rfl) rfl ?_
  refine o_f_X13_goesOn_h6 (fun y41 h40 => ?_) _ _ _ _ _ _ _ _ _ 
  show jv_O X M_X13_goesOn _ jeI 186 [none, none, none, none, none, none, some (.int (y41)), none, none, none] [] h40 _
  refine jv_iload (jv_dk t_X13_goesOn (k := 97) rfl) rfl ?_
  unfold jz
  by_cases c42 : y41 &&& 1 = y41
  · rw [if_pos c42]; exact jv_iret (ty := .boolean) (jv_dk t_X13_goesOn (k := 98) rfl) rfl (jv_nb c42) rfl
  · rw [if_neg c42]; exact jv_none rfl
def t0_X13_tellSteps : List (Nat × Instr × Nat) := [(0, .iconst 0, 1), (1, .istore_n 2, 1), (2, .iload_n 2, 1), (3, .sipush 128, 3), (6, .if_icmp .ge 16, 3), (9, .aload_n 0, 1), (10, .getfield 63, 3), (13, .iload_n 2, 1), (14, .iconst (-1), 1), (15, .iastore, 1), (16, .iinc 2 1, 3), (19, .goto (-17), 3), (22, .aload_n 0, 1), (23, .getfield 63, 3), (26, .aload_n 0, 1), (27, .iload_n 1, 1), (28, .iconst 3, 1), (29, .invokevirtual 205, 3), (32, .aload_n 0, 1), (33, .iload_n 1, 1), (34, .bipush 7, 2), (36, .invokevirtual 205, 3), (39, .aload_n 0, 1), (40, .iload_n 1, 1), (41, .iconst 4, 1), (42, .invokevirtual 205, 3), (45, .invokestatic 356, 3), (48, .iconst 0, 1), (49, .iastore, 1), (50, .iconst 1, 1), (51, .istore_n 2, 1), (52, .iconst 0, 1), (53, .istore_n 3, 1), (54, .iload_n 2, 1), (55, .ifCond .eq 77, 3), (58, .iconst 0, 1), (59, .istore_n 2, 1), (60, .iconst 0, 1), (61, .istore 4, 2), (63, .iload 4, 2), (65, .sipush 128, 3), (68, .if_icmp .ge 58, 3), (71, .aload_n 0, 1), (72, .getfield 63, 3), (75, .iload 4, 2), (77, .iaload, 1), (78, .iload_n 3, 1), (79, .if_icmp .ne 41, 3), (82, .aload_n 0, 1), (83, .iload_n 1, 1), (84, .iload 4, 2), (86, .bipush 8, 2), (88, .idiv, 1), (89, .iconst 2, 1), (90, .idiv, 1), (91, .iload 4, 2), (93, .bipush 8, 2), (95, .idiv, 1), (96, .iconst 2, 1), (97, .irem, 1), (98, .iload 4, 2), (100, .bipush 8, 2), (102, .irem, 1), (103, .iload_n 3, 1), (104, .invokevirtual 362, 3), (107, .ifCond .ne 7, 3), (110, .iload_n 2, 1), (111, .ifCond .eq 7, 3), (114, .iconst 1, 1), (115, .goto 4, 3), (118, .iconst 0, 1), (119, .istore_n 2, 1), (120, .iinc 4 1, 3), (123, .goto (-60), 3), (126, .iinc 3 1, 3), (129, .goto (-75), 3), (132, .return_, 1)]
theorem t_X13_tellSteps : jv_dec cX13_tellSteps t0_X13_tellSteps = true := by decide +kernel
def M_X13_tellSteps : jm := (yX13_tellSteps, cX13_tellSteps, 5, none, 4, 98, [])
theorem lk_X13_362 : Cond.methodLink RX13 362 M_X13_goesOn.1 ∈ lw_tbl := (jv_at 1834 (by decide +kernel))
set_option maxRecDepth 20000 in
theorem me_X13_goesOn : jv_me M_X13_goesOn 5 := ⟨(jv_in7 (List.mem_of_getElem? (i := 237) rfl)), (jv_at 172 (by decide +kernel)), ⟨by decide, by decide⟩, by decide +kernel⟩
theorem mv_X13_goesOn : jv_mv M_X13_goesOn := ⟨(jv_at 1836 (by decide +kernel)), (jv_at 150 (by decide +kernel))⟩
def f_X13_tellSteps_h2 (K2 : Nat → Int32 → jh → Option (Unit × jh)) (R2 : Nat → Int32 → Int32 → jh → Option (Unit × jh)) (x0 : Nat) (x1 : Int32) (x2 : Int32) (h : jh) : Option (Unit × jh) :=
  (if 128 ≤ x2 then
  K2 x0 x1 h
  else
  gR h x0 11 21 fun v2 =>
  sI h v2 x2 (-1) fun h3 =>
  R2 x0 x1 (x2 + 1) h3)
theorem o_f_X13_tellSteps_h2 {X : jx} {b0 : Nat × Nat} {K2 : Nat → Int32 → jh → Option (Unit × jh)} (hK2 : ∀ (x0 : Nat) (x1 : Int32) (h : jh), jv_O X M_X13_tellSteps b0 jeV 22 [some (.ref (x0)), some (.int (x1)), none, none, none] [] h (K2 x0 x1 h)) : ∀ (x0 : Nat) (x1 : Int32) (x2 : Int32) (h : jh), jv_O X M_X13_tellSteps b0 jeV 2 [some (.ref (x0)), some (.int (x1)), some (.int (x2)), none, none] [] h (jlp3 (f_X13_tellSteps_h2 K2) jfu x0 x1 x2 h) := by
  refine jlp3_ok (P := fun x0 x1 x2 h o => jv_O X M_X13_tellSteps b0 jeV 2 [some (.ref (x0)), some (.int (x1)), some (.int (x2)), none, none] [] h o) (fun R2 hR2 => ?_) (fun _ _ _ _  => jv_none rfl) jfu
  intro x0 x1 x2 h
  unfold f_X13_tellSteps_h2
  refine jv_iload_n (jv_dk t_X13_tellSteps (k := 2) rfl) rfl rfl ?_
  refine jv_sipush (v := 128) (jv_dk t_X13_tellSteps (k := 3) rfl) (by decide) ?_
  refine jv_icmp_ge (tgt := 22) (jv_dk t_X13_tellSteps (k := 4) rfl) rfl (fun c1 => ?_) (fun c1 => ?_)
  · refine jv_le_row (jv_le_s (jv_le_s (jv_le_n (jv_le_n (jv_le_n (jv_le_nil)))))) ?_
    exact hK2 _ _ _ 
  · show jv_O _ _ _ _ 9 _ _ _ _
    refine jv_aload_n (jv_dk t_X13_tellSteps (k := 5) rfl) rfl rfl (Or.inr ⟨_, rfl⟩) ?_
    refine jv_gR (jv_dk t_X13_tellSteps (k := 6) rfl) fl_X13_63 (fun v2 => ?_)
    refine jv_iload_n (jv_dk t_X13_tellSteps (k := 7) rfl) rfl rfl ?_
    refine jv_iconst (v := (-1)) (jv_dk t_X13_tellSteps (k := 8) rfl) (by decide) ?_
    refine jv_iastore (jv_dk t_X13_tellSteps (k := 9) rfl) (fun h3 => ?_)
    refine jv_iinc (v := 1) (L' := [some (.ref (x0)), some (.int (x1)), some (.int (x2 + 1)), none, none]) (jv_dk t_X13_tellSteps (k := 10) rfl) rfl (by decide) rfl ?_
    refine jv_goto (tgt := 2) (jv_dk t_X13_tellSteps (k := 11) rfl) rfl ?_
    exact hR2 _ _ _ _ 
def f_X13_tellSteps_h63 (R54 : Nat → Int32 → Int32 → Int32 → jh → Option (Unit × jh)) (K54 : jh → Option (Unit × jh)) (K63 : Nat → Int32 → Int32 → Int32 → jh → Option (Unit × jh)) (R63 : Nat → Int32 → Int32 → Int32 → Int32 → jh → Option (Unit × jh)) (x0 : Nat) (x1 : Int32) (x2 : Int32) (x3 : Int32) (x4 : Int32) (h : jh) : Option (Unit × jh) :=
  (if 128 ≤ x4 then
  K63 x0 x1 x2 x3 h
  else
  gR h x0 11 21 fun v19 =>
  aI h v19 x4 fun v20 =>
  (if ¬ v20 = x3 then
  R63 x0 x1 x2 x3 (x4 + 1) h
  else
  cV h x0 11 (f_X13_goesOn x0 x1 ((x4 / 8) / 2) ((x4 / 8) - (x4 / 8) / 2 * 2) (x4 - x4 / 8 * 8) x3 h) fun v22 h23 =>
  (if ¬ v22 = 0 then
  R63 x0 x1 1 x3 (x4 + 1) h23
  else
  (if x2 = 0 then
  R63 x0 x1 0 x3 (x4 + 1) h23
  else
  R63 x0 x1 1 x3 (x4 + 1) h23))))
theorem o_f_X13_tellSteps_h63 {X : jx} {b0 : Nat × Nat} {R54 : Nat → Int32 → Int32 → Int32 → jh → Option (Unit × jh)} {K54 : jh → Option (Unit × jh)} {K63 : Nat → Int32 → Int32 → Int32 → jh → Option (Unit × jh)} (hR54 : ∀ (x0 : Nat) (x1 : Int32) (x2 : Int32) (x3 : Int32) (h : jh), jv_O X M_X13_tellSteps b0 jeV 54 [some (.ref (x0)), some (.int (x1)), some (.int (x2)), some (.int (x3)), none] [] h (R54 x0 x1 x2 x3 h)) (hK54 : ∀  (h : jh), jv_O X M_X13_tellSteps b0 jeV 132 [none, none, none, none, none] [] h (K54  h)) (hK63 : ∀ (x0 : Nat) (x1 : Int32) (x2 : Int32) (x3 : Int32) (h : jh), jv_O X M_X13_tellSteps b0 jeV 126 [some (.ref (x0)), some (.int (x1)), some (.int (x2)), some (.int (x3)), none] [] h (K63 x0 x1 x2 x3 h)) : ∀ (x0 : Nat) (x1 : Int32) (x2 : Int32) (x3 : Int32) (x4 : Int32) (h : jh), jv_O X M_X13_tellSteps b0 jeV 63 [some (.ref (x0)), some (.int (x1)), some (.int (x2)), some (.int (x3)), some (.int (x4))] [] h (jlp5 (f_X13_tellSteps_h63 R54 K54 K63) jfu x0 x1 x2 x3 x4 h) := by
  refine jlp5_ok (P := fun x0 x1 x2 x3 x4 h o => jv_O X M_X13_tellSteps b0 jeV 63 [some (.ref (x0)), some (.int (x1)), some (.int (x2)), some (.int (x3)), some (.int (x4))] [] h o) (fun R63 hR63 => ?_) (fun _ _ _ _ _ _  => jv_none rfl) jfu
  intro x0 x1 x2 x3 x4 h
  unfold f_X13_tellSteps_h63
  refine jv_iload (jv_dk t_X13_tellSteps (k := 39) rfl) rfl ?_
  refine jv_sipush (v := 128) (jv_dk t_X13_tellSteps (k := 40) rfl) (by decide) ?_
  refine jv_icmp_ge (tgt := 126) (jv_dk t_X13_tellSteps (k := 41) rfl) rfl (fun c18 => ?_) (fun c18 => ?_)
  · refine jv_le_row (jv_le_s (jv_le_s (jv_le_s (jv_le_s (jv_le_n (jv_le_nil)))))) ?_
    exact hK63 _ _ _ _ _ 
  · show jv_O _ _ _ _ 71 _ _ _ _
    refine jv_aload_n (jv_dk t_X13_tellSteps (k := 42) rfl) rfl rfl (Or.inr ⟨_, rfl⟩) ?_
    refine jv_gR (jv_dk t_X13_tellSteps (k := 43) rfl) fl_X13_63 (fun v19 => ?_)
    refine jv_iload (jv_dk t_X13_tellSteps (k := 44) rfl) rfl ?_
    refine jv_iaload (jv_dk t_X13_tellSteps (k := 45) rfl) (fun v20 => ?_)
    refine jv_iload_n (jv_dk t_X13_tellSteps (k := 46) rfl) rfl rfl ?_
    refine jv_icmp_ne (tgt := 120) (jv_dk t_X13_tellSteps (k := 47) rfl) rfl (fun c21 => ?_) (fun c21 => ?_)
    · refine jv_iinc (v := 1) (L' := [some (.ref (x0)), some (.int (x1)), some (.int (x2)), some (.int (x3)), some (.int (x4 + 1))]) (jv_dk t_X13_tellSteps (k := 72) rfl) rfl (by decide) rfl ?_
      refine jv_goto (tgt := 63) (jv_dk t_X13_tellSteps (k := 73) rfl) rfl ?_
      exact hR63 _ _ _ _ _ _ 
    · show jv_O _ _ _ _ 82 _ _ _ _
      refine jv_aload_n (jv_dk t_X13_tellSteps (k := 48) rfl) rfl rfl (Or.inr ⟨_, rfl⟩) ?_
      refine jv_iload_n (jv_dk t_X13_tellSteps (k := 49) rfl) rfl rfl ?_
      refine jv_iload (jv_dk t_X13_tellSteps (k := 50) rfl) rfl ?_
      refine jv_bipush (v := 8) (jv_dk t_X13_tellSteps (k := 51) rfl) (by decide) ?_
      refine jv_idiv (jv_dk t_X13_tellSteps (k := 52) rfl) (by decide) ?_
      refine jv_iconst (v := 2) (jv_dk t_X13_tellSteps (k := 53) rfl) (by decide) ?_
      refine jv_idiv (jv_dk t_X13_tellSteps (k := 54) rfl) (by decide) ?_
      refine jv_iload (jv_dk t_X13_tellSteps (k := 55) rfl) rfl ?_
      refine jv_bipush (v := 8) (jv_dk t_X13_tellSteps (k := 56) rfl) (by decide) ?_
      refine jv_idiv (jv_dk t_X13_tellSteps (k := 57) rfl) (by decide) ?_
      refine jv_iconst (v := 2) (jv_dk t_X13_tellSteps (k := 58) rfl) (by decide) ?_
      refine jv_irem (jv_dk t_X13_tellSteps (k := 59) rfl) (by decide) ?_
      refine jv_iload (jv_dk t_X13_tellSteps (k := 60) rfl) rfl ?_
      refine jv_bipush (v := 8) (jv_dk t_X13_tellSteps (k := 61) rfl) (by decide) ?_
      refine jv_irem (jv_dk t_X13_tellSteps (k := 62) rfl) (by decide) ?_
      refine jv_iload_n (jv_dk t_X13_tellSteps (k := 63) rfl) rfl rfl ?_
      refine jv_callV (en' := jeI) (pv := jpI) (As := [.int (x1), .int ((x4 / 8) / 2), .int ((x4 / 8) - (x4 / 8) / 2 * 2), .int (x4 - x4 / 8 * 8), .int (x3)]) (S := []) (jv_dk t_X13_tellSteps (k := 64) rfl) (fun _ => rfl) (Or.inl lk_X13_362) me_X13_goesOn mv_X13_goesOn ⟨by decide, by decide⟩ rfl rfl rfl (Nat.le_of_ble_eq_true rfl) (P_X13_goesOn X x0 x1 ((x4 / 8) / 2) ((x4 / 8) - (x4 / 8) / 2 * 2) (x4 - x4 / 8 * 8) x3 h) (fun v22 h23 => ?_)
      show jv_O X M_X13_tellSteps _ jeV 107 [some (.ref (x0)), some (.int (x1)), some (.int (x2)), some (.int (x3)), some (.int (x4))] [.int (v22)] h23 _
      refine jv_if_ne (tgt := 114) (jv_dk t_X13_tellSteps (k := 65) rfl) rfl (fun c24 => ?_) (fun c24 => ?_)
      · refine jv_iconst (v := 1) (jv_dk t_X13_tellSteps (k := 68) rfl) (by decide) ?_
        refine jv_goto (tgt := 119) (jv_dk t_X13_tellSteps (k := 69) rfl) rfl ?_
        refine jv_istore_n (L' := [some (.ref (x0)), some (.int (x1)), some (.int (1)), some (.int (x3)), some (.int (x4))]) (jv_dk t_X13_tellSteps (k := 71) rfl) rfl (Nat.le_of_ble_eq_true rfl) rfl ?_
        refine jv_iinc (v := 1) (L' := [some (.ref (x0)), some (.int (x1)), some (.int (1)), some (.int (x3)), some (.int (x4 + 1))]) (jv_dk t_X13_tellSteps (k := 72) rfl) rfl (by decide) rfl ?_
        refine jv_goto (tgt := 63) (jv_dk t_X13_tellSteps (k := 73) rfl) rfl ?_
        exact hR63 _ _ _ _ _ _ 
      · show jv_O _ _ _ _ 110 _ _ _ _
        refine jv_iload_n (jv_dk t_X13_tellSteps (k := 66) rfl) rfl rfl ?_
        refine jv_if_eq (tgt := 118) (jv_dk t_X13_tellSteps (k := 67) rfl) rfl (fun c25 => ?_) (fun c25 => ?_)
        · refine jv_iconst (v := 0) (jv_dk t_X13_tellSteps (k := 70) rfl) (by decide) ?_
          refine jv_istore_n (L' := [some (.ref (x0)), some (.int (x1)), some (.int (0)), some (.int (x3)), some (.int (x4))]) (jv_dk t_X13_tellSteps (k := 71) rfl) rfl (Nat.le_of_ble_eq_true rfl) rfl ?_
          refine jv_iinc (v := 1) (L' := [some (.ref (x0)), some (.int (x1)), some (.int (0)), some (.int (x3)), some (.int (x4 + 1))]) (jv_dk t_X13_tellSteps (k := 72) rfl) rfl (by decide) rfl ?_
          refine jv_goto (tgt := 63) (jv_dk t_X13_tellSteps (k := 73) rfl) rfl ?_
          exact hR63 _ _ _ _ _ _ 
        · show jv_O _ _ _ _ 114 _ _ _ _
          refine jv_iconst (v := 1) (jv_dk t_X13_tellSteps (k := 68) rfl) (by decide) ?_
          refine jv_goto (tgt := 119) (jv_dk t_X13_tellSteps (k := 69) rfl) rfl ?_
          refine jv_istore_n (L' := [some (.ref (x0)), some (.int (x1)), some (.int (1)), some (.int (x3)), some (.int (x4))]) (jv_dk t_X13_tellSteps (k := 71) rfl) rfl (Nat.le_of_ble_eq_true rfl) rfl ?_
          refine jv_iinc (v := 1) (L' := [some (.ref (x0)), some (.int (x1)), some (.int (1)), some (.int (x3)), some (.int (x4 + 1))]) (jv_dk t_X13_tellSteps (k := 72) rfl) rfl (by decide) rfl ?_
          refine jv_goto (tgt := 63) (jv_dk t_X13_tellSteps (k := 73) rfl) rfl ?_
          exact hR63 _ _ _ _ _ _ 
def f_X13_tellSteps_h54 (K54 : jh → Option (Unit × jh)) (R54 : Nat → Int32 → Int32 → Int32 → jh → Option (Unit × jh)) (x0 : Nat) (x1 : Int32) (x2 : Int32) (x3 : Int32) (h : jh) : Option (Unit × jh) :=
  (if x2 = 0 then
  K54  h
  else
  jlp5 (f_X13_tellSteps_h63 R54 K54 (fun y27 y28 y29 y30 h26 =>
  R54 y27 y28 y29 (y30 + 1) h26)) jfu x0 x1 0 x3 0 h)
theorem o_f_X13_tellSteps_h54 {X : jx} {b0 : Nat × Nat} {K54 : jh → Option (Unit × jh)} (hK54 : ∀  (h : jh), jv_O X M_X13_tellSteps b0 jeV 132 [none, none, none, none, none] [] h (K54  h)) : ∀ (x0 : Nat) (x1 : Int32) (x2 : Int32) (x3 : Int32) (h : jh), jv_O X M_X13_tellSteps b0 jeV 54 [some (.ref (x0)), some (.int (x1)), some (.int (x2)), some (.int (x3)), none] [] h (jlp4 (f_X13_tellSteps_h54 K54) jfu x0 x1 x2 x3 h) := by
  refine jlp4_ok (P := fun x0 x1 x2 x3 h o => jv_O X M_X13_tellSteps b0 jeV 54 [some (.ref (x0)), some (.int (x1)), some (.int (x2)), some (.int (x3)), none] [] h o) (fun R54 hR54 => ?_) (fun _ _ _ _ _  => jv_none rfl) jfu
  intro x0 x1 x2 x3 h
  unfold f_X13_tellSteps_h54
  refine jv_iload_n (jv_dk t_X13_tellSteps (k := 33) rfl) rfl rfl ?_
  refine jv_if_eq (tgt := 132) (jv_dk t_X13_tellSteps (k := 34) rfl) rfl (fun c17 => ?_) (fun c17 => ?_)
  · refine jv_le_row (jv_le_n (jv_le_n (jv_le_n (jv_le_n (jv_le_n (jv_le_nil)))))) ?_
    exact hK54 _ 
  · show jv_O _ _ _ _ 58 _ _ _ _
    refine jv_iconst (v := 0) (jv_dk t_X13_tellSteps (k := 35) rfl) (by decide) ?_
    refine jv_istore_n (L' := [some (.ref (x0)), some (.int (x1)), some (.int (0)), some (.int (x3)), none]) (jv_dk t_X13_tellSteps (k := 36) rfl) rfl (Nat.le_of_ble_eq_true rfl) rfl ?_
    refine jv_iconst (v := 0) (jv_dk t_X13_tellSteps (k := 37) rfl) (by decide) ?_
    refine jv_istore (L' := [some (.ref (x0)), some (.int (x1)), some (.int (0)), some (.int (x3)), some (.int (0))]) (jv_dk t_X13_tellSteps (k := 38) rfl) (Nat.le_of_ble_eq_true rfl) rfl ?_
    refine o_f_X13_tellSteps_h63 hR54 hK54 (fun y27 y28 y29 y30 h26 => ?_) _ _ _ _ _ _ 
    show jv_O X M_X13_tellSteps _ jeV 126 [some (.ref (y27)), some (.int (y28)), some (.int (y29)), some (.int (y30)), none] [] h26 _
    refine jv_iinc (v := 1) (L' := [some (.ref (y27)), some (.int (y28)), some (.int (y29)), some (.int (y30 + 1)), none]) (jv_dk t_X13_tellSteps (k := 74) rfl) rfl (by decide) rfl ?_
    refine jv_goto (tgt := 54) (jv_dk t_X13_tellSteps (k := 75) rfl) rfl ?_
    exact hR54 _ _ _ _ _ 
def f_X13_tellSteps (a0 : Nat) (a1 : Int32) (h : jh) : Option (Unit × jh) :=
  jlp3 (f_X13_tellSteps_h2 (fun y5 y6 h4 =>
  gR h4 y5 11 21 fun v7 =>
  cV h4 y5 11 (f_X13_of y5 y6 3 h4) fun v8 h9 =>
  cV h9 y5 11 (f_X13_of y5 y6 7 h9) fun v10 h11 =>
  cV h11 y5 11 (f_X13_of y5 y6 4 h11) fun v12 h13 =>
  bd (f_X13_state v8 v10 v12 h13) fun v14 h15 =>
  sI h15 v7 v14 0 fun h16 =>
  jlp4 (f_X13_tellSteps_h54 (fun  h31 =>
  some ((), h31))) jfu y5 y6 1 0 h16)) jfu a0 a1 0 h
theorem P_X13_tellSteps (X : jx) (a0 : Nat) (a1 : Int32) (h : jh) : jv_P X M_X13_tellSteps jeV [.ref (a0), .int (a1)] h (f_X13_tellSteps a0 a1 h) := by
  refine jv_P.of (by decide) rfl (by simp [Value.category]) (Nat.le_of_ble_eq_true rfl) ?_
  show jv_O X M_X13_tellSteps (h.1, h.2.1) jeV 0 [some (.ref (a0)), some (.int (a1)), none, none, none] [] h (f_X13_tellSteps a0 a1 h)
  unfold f_X13_tellSteps
  refine jv_iconst (v := 0) (jv_dk t_X13_tellSteps (k := 0) rfl) (by decide) ?_
  refine jv_istore_n (L' := [some (.ref (a0)), some (.int (a1)), some (.int (0)), none, none]) (jv_dk t_X13_tellSteps (k := 1) rfl) rfl (Nat.le_of_ble_eq_true rfl) rfl ?_
  refine o_f_X13_tellSteps_h2 (fun y5 y6 h4 => ?_) _ _ _ _ 
  show jv_O X M_X13_tellSteps _ jeV 22 [some (.ref (y5)), some (.int (y6)), none, none, none] [] h4 _
  refine jv_aload_n (jv_dk t_X13_tellSteps (k := 12) rfl) rfl rfl (Or.inr ⟨_, rfl⟩) ?_
  refine jv_gR (jv_dk t_X13_tellSteps (k := 13) rfl) fl_X13_63 (fun v7 => ?_)
  refine jv_aload_n (jv_dk t_X13_tellSteps (k := 14) rfl) rfl rfl (Or.inr ⟨_, rfl⟩) ?_
  refine jv_iload_n (jv_dk t_X13_tellSteps (k := 15) rfl) rfl rfl ?_
  refine jv_iconst (v := 3) (jv_dk t_X13_tellSteps (k := 16) rfl) (by decide) ?_
  refine jv_callV (en' := jeI) (pv := jpI) (As := [.int (y6), .int (3)]) (S := [.ref (v7)]) (jv_dk t_X13_tellSteps (k := 17) rfl) (fun _ => rfl) (Or.inl lk_X13_205) me_X13_of mv_X13_of ⟨by decide, by decide⟩ rfl rfl rfl (Nat.le_of_ble_eq_true rfl) (P_X13_of X y5 y6 3 h4) (fun v8 h9 => ?_)
  show jv_O X M_X13_tellSteps _ jeV 32 [some (.ref (y5)), some (.int (y6)), none, none, none] [.int (v8), .ref (v7)] h9 _
  refine jv_aload_n (jv_dk t_X13_tellSteps (k := 18) rfl) rfl rfl (Or.inr ⟨_, rfl⟩) ?_
  refine jv_iload_n (jv_dk t_X13_tellSteps (k := 19) rfl) rfl rfl ?_
  refine jv_bipush (v := 7) (jv_dk t_X13_tellSteps (k := 20) rfl) (by decide) ?_
  refine jv_callV (en' := jeI) (pv := jpI) (As := [.int (y6), .int (7)]) (S := [.int (v8), .ref (v7)]) (jv_dk t_X13_tellSteps (k := 21) rfl) (fun _ => rfl) (Or.inl lk_X13_205) me_X13_of mv_X13_of ⟨by decide, by decide⟩ rfl rfl rfl (Nat.le_of_ble_eq_true rfl) (P_X13_of X y5 y6 7 h9) (fun v10 h11 => ?_)
  show jv_O X M_X13_tellSteps _ jeV 39 [some (.ref (y5)), some (.int (y6)), none, none, none] [.int (v10), .int (v8), .ref (v7)] h11 _
  refine jv_aload_n (jv_dk t_X13_tellSteps (k := 22) rfl) rfl rfl (Or.inr ⟨_, rfl⟩) ?_
  refine jv_iload_n (jv_dk t_X13_tellSteps (k := 23) rfl) rfl rfl ?_
  refine jv_iconst (v := 4) (jv_dk t_X13_tellSteps (k := 24) rfl) (by decide) ?_
  refine jv_callV (en' := jeI) (pv := jpI) (As := [.int (y6), .int (4)]) (S := [.int (v10), .int (v8), .ref (v7)]) (jv_dk t_X13_tellSteps (k := 25) rfl) (fun _ => rfl) (Or.inl lk_X13_205) me_X13_of mv_X13_of ⟨by decide, by decide⟩ rfl rfl rfl (Nat.le_of_ble_eq_true rfl) (P_X13_of X y5 y6 4 h11) (fun v12 h13 => ?_)
  show jv_O X M_X13_tellSteps _ jeV 45 [some (.ref (y5)), some (.int (y6)), none, none, none] [.int (v12), .int (v10), .int (v8), .ref (v7)] h13 _
  refine jv_callS (en' := jeI) (pv := jpI) (As := [.int (v8), .int (v10), .int (v12)]) (S := [.ref (v7)]) (jv_dk t_X13_tellSteps (k := 26) rfl) (fun _ => rfl) (Or.inl lk_X13_356) me_X13_state ms_X13_state ⟨by decide, by decide⟩ rfl rfl (Nat.le_of_ble_eq_true rfl) (P_X13_state X v8 v10 v12 h13) (fun v14 h15 => ?_)
  show jv_O X M_X13_tellSteps _ jeV 48 [some (.ref (y5)), some (.int (y6)), none, none, none] [.int (v14), .ref (v7)] h15 _
  refine jv_iconst (v := 0) (jv_dk t_X13_tellSteps (k := 27) rfl) (by decide) ?_
  refine jv_iastore (jv_dk t_X13_tellSteps (k := 28) rfl) (fun h16 => ?_)
  refine jv_iconst (v := 1) (jv_dk t_X13_tellSteps (k := 29) rfl) (by decide) ?_
  refine jv_istore_n (L' := [some (.ref (y5)), some (.int (y6)), some (.int (1)), none, none]) (jv_dk t_X13_tellSteps (k := 30) rfl) rfl (Nat.le_of_ble_eq_true rfl) rfl ?_
  refine jv_iconst (v := 0) (jv_dk t_X13_tellSteps (k := 31) rfl) (by decide) ?_
  refine jv_istore_n (L' := [some (.ref (y5)), some (.int (y6)), some (.int (1)), some (.int (0)), none]) (jv_dk t_X13_tellSteps (k := 32) rfl) rfl (Nat.le_of_ble_eq_true rfl) rfl ?_
  refine o_f_X13_tellSteps_h54 (fun  h31 => ?_) _ _ _ _ _ 
  show jv_O X M_X13_tellSteps _ jeV 132 [none, none, none, none, none] [] h31 _
  exact jv_vret (jv_dk t_X13_tellSteps (k := 76) rfl) rfl rfl
def t0_X13_stepsTo : List (Nat × Instr × Nat) := [(0, .iconst (-1), 1), (1, .istore_n 2, 1), (2, .iconst 0, 1), (3, .istore_n 3, 1), (4, .iload_n 3, 1), (5, .sipush 128, 3), (8, .if_icmp .ge 48, 3), (11, .iload_n 3, 1), (12, .bipush 8, 2), (14, .irem, 1), (15, .iload_n 1, 1), (16, .if_icmp .ne 34, 3), (19, .aload_n 0, 1), (20, .getfield 63, 3), (23, .iload_n 3, 1), (24, .iaload, 1), (25, .ifCond .lt 25, 3), (28, .iload_n 2, 1), (29, .iconst (-1), 1), (30, .if_icmp .eq 13, 3), (33, .aload_n 0, 1), (34, .getfield 63, 3), (37, .iload_n 3, 1), (38, .iaload, 1), (39, .iload_n 2, 1), (40, .if_icmp .ge 10, 3), (43, .aload_n 0, 1), (44, .getfield 63, 3), (47, .iload_n 3, 1), (48, .iaload, 1), (49, .istore_n 2, 1), (50, .iinc 3 1, 3), (53, .goto (-49), 3), (56, .iload_n 2, 1), (57, .ireturn, 1)]
theorem t_X13_stepsTo : jv_dec cX13_stepsTo t0_X13_stepsTo = true := by decide +kernel
def M_X13_stepsTo : jm := (yX13_stepsTo, cX13_stepsTo, 4, (some .int), 0, 0, [])
def f_X13_stepsTo_b43 (R4 : Nat → Int32 → Int32 → Int32 → jh → Option (Int32 × jh)) (K4 : Int32 → jh → Option (Int32 × jh)) (x0 : Nat) (x1 : Int32) (x3 : Int32) (h : jh) : Option (Int32 × jh) :=
  gR h x0 11 21 fun v7 =>
  aI h v7 x3 fun v8 =>
  R4 x0 x1 v8 (x3 + 1) h
theorem o_f_X13_stepsTo_b43 {X : jx} {b0 : Nat × Nat} {R4 : Nat → Int32 → Int32 → Int32 → jh → Option (Int32 × jh)} {K4 : Int32 → jh → Option (Int32 × jh)} (hR4 : ∀ (x0 : Nat) (x1 : Int32) (x2 : Int32) (x3 : Int32) (h : jh), jv_O X M_X13_stepsTo b0 jeI 4 [some (.ref (x0)), some (.int (x1)), some (.int (x2)), some (.int (x3))] [] h (R4 x0 x1 x2 x3 h)) (hK4 : ∀ (x2 : Int32) (h : jh), jv_O X M_X13_stepsTo b0 jeI 56 [none, none, some (.int (x2)), none] [] h (K4 x2 h)) (x0 : Nat) (x1 : Int32) (x3 : Int32) (h : jh) : jv_O X M_X13_stepsTo b0 jeI 43 [some (.ref (x0)), some (.int (x1)), none, some (.int (x3))] [] h (f_X13_stepsTo_b43 R4 K4 x0 x1 x3 h) := by
  unfold f_X13_stepsTo_b43
  refine jv_aload_n (jv_dk t_X13_stepsTo (k := 26) rfl) rfl rfl (Or.inr ⟨_, rfl⟩) ?_
  refine jv_gR (jv_dk t_X13_stepsTo (k := 27) rfl) fl_X13_63 (fun v7 => ?_)
  refine jv_iload_n (jv_dk t_X13_stepsTo (k := 28) rfl) rfl rfl ?_
  refine jv_iaload (jv_dk t_X13_stepsTo (k := 29) rfl) (fun v8 => ?_)
  refine jv_istore_n (L' := [some (.ref (x0)), some (.int (x1)), some (.int (v8)), some (.int (x3))]) (jv_dk t_X13_stepsTo (k := 30) rfl) rfl (Nat.le_of_ble_eq_true rfl) rfl ?_
  refine jv_iinc (v := 1) (L' := [some (.ref (x0)), some (.int (x1)), some (.int (v8)), some (.int (x3 + 1))]) (jv_dk t_X13_stepsTo (k := 31) rfl) rfl (by decide) rfl ?_
  refine jv_goto (tgt := 4) (jv_dk t_X13_stepsTo (k := 32) rfl) rfl ?_
  exact hR4 _ _ _ _ _ 
def f_X13_stepsTo_h4 (K4 : Int32 → jh → Option (Int32 × jh)) (R4 : Nat → Int32 → Int32 → Int32 → jh → Option (Int32 × jh)) (x0 : Nat) (x1 : Int32) (x2 : Int32) (x3 : Int32) (h : jh) : Option (Int32 × jh) :=
  (if 128 ≤ x3 then
  K4 x2 h
  else
  (if ¬ (x3 - x3 / 8 * 8) = x1 then
  R4 x0 x1 x2 (x3 + 1) h
  else
  gR h x0 11 21 fun v3 =>
  aI h v3 x3 fun v4 =>
  (if v4 < 0 then
  R4 x0 x1 x2 (x3 + 1) h
  else
  (if x2 = (-1) then
  f_X13_stepsTo_b43 R4 K4 x0 x1 x3 h
  else
  gR h x0 11 21 fun v9 =>
  aI h v9 x3 fun v10 =>
  (if x2 ≤ v10 then
  R4 x0 x1 x2 (x3 + 1) h
  else
  f_X13_stepsTo_b43 R4 K4 x0 x1 x3 h)))))
theorem o_f_X13_stepsTo_h4 {X : jx} {b0 : Nat × Nat} {K4 : Int32 → jh → Option (Int32 × jh)} (hK4 : ∀ (x2 : Int32) (h : jh), jv_O X M_X13_stepsTo b0 jeI 56 [none, none, some (.int (x2)), none] [] h (K4 x2 h)) : ∀ (x0 : Nat) (x1 : Int32) (x2 : Int32) (x3 : Int32) (h : jh), jv_O X M_X13_stepsTo b0 jeI 4 [some (.ref (x0)), some (.int (x1)), some (.int (x2)), some (.int (x3))] [] h (jlp4 (f_X13_stepsTo_h4 K4) jfu x0 x1 x2 x3 h) := by
  refine jlp4_ok (P := fun x0 x1 x2 x3 h o => jv_O X M_X13_stepsTo b0 jeI 4 [some (.ref (x0)), some (.int (x1)), some (.int (x2)), some (.int (x3))] [] h o) (fun R4 hR4 => ?_) (fun _ _ _ _ _  => jv_none rfl) jfu
  intro x0 x1 x2 x3 h
  unfold f_X13_stepsTo_h4
  refine jv_iload_n (jv_dk t_X13_stepsTo (k := 4) rfl) rfl rfl ?_
  refine jv_sipush (v := 128) (jv_dk t_X13_stepsTo (k := 5) rfl) (by decide) ?_
  refine jv_icmp_ge (tgt := 56) (jv_dk t_X13_stepsTo (k := 6) rfl) rfl (fun c1 => ?_) (fun c1 => ?_)
  · refine jv_le_row (jv_le_n (jv_le_n (jv_le_s (jv_le_n (jv_le_nil))))) ?_
    exact hK4 _ _ 
  · show jv_O _ _ _ _ 11 _ _ _ _
    refine jv_iload_n (jv_dk t_X13_stepsTo (k := 7) rfl) rfl rfl ?_
    refine jv_bipush (v := 8) (jv_dk t_X13_stepsTo (k := 8) rfl) (by decide) ?_
    refine jv_irem (jv_dk t_X13_stepsTo (k := 9) rfl) (by decide) ?_
    refine jv_iload_n (jv_dk t_X13_stepsTo (k := 10) rfl) rfl rfl ?_
    refine jv_icmp_ne (tgt := 50) (jv_dk t_X13_stepsTo (k := 11) rfl) rfl (fun c2 => ?_) (fun c2 => ?_)
    · refine jv_iinc (v := 1) (L' := [some (.ref (x0)), some (.int (x1)), some (.int (x2)), some (.int (x3 + 1))]) (jv_dk t_X13_stepsTo (k := 31) rfl) rfl (by decide) rfl ?_
      refine jv_goto (tgt := 4) (jv_dk t_X13_stepsTo (k := 32) rfl) rfl ?_
      exact hR4 _ _ _ _ _ 
    · show jv_O _ _ _ _ 19 _ _ _ _
      refine jv_aload_n (jv_dk t_X13_stepsTo (k := 12) rfl) rfl rfl (Or.inr ⟨_, rfl⟩) ?_
      refine jv_gR (jv_dk t_X13_stepsTo (k := 13) rfl) fl_X13_63 (fun v3 => ?_)
      refine jv_iload_n (jv_dk t_X13_stepsTo (k := 14) rfl) rfl rfl ?_
      refine jv_iaload (jv_dk t_X13_stepsTo (k := 15) rfl) (fun v4 => ?_)
      refine jv_if_lt (tgt := 50) (jv_dk t_X13_stepsTo (k := 16) rfl) rfl (fun c5 => ?_) (fun c5 => ?_)
      · refine jv_iinc (v := 1) (L' := [some (.ref (x0)), some (.int (x1)), some (.int (x2)), some (.int (x3 + 1))]) (jv_dk t_X13_stepsTo (k := 31) rfl) rfl (by decide) rfl ?_
        refine jv_goto (tgt := 4) (jv_dk t_X13_stepsTo (k := 32) rfl) rfl ?_
        exact hR4 _ _ _ _ _ 
      · show jv_O _ _ _ _ 28 _ _ _ _
        refine jv_iload_n (jv_dk t_X13_stepsTo (k := 17) rfl) rfl rfl ?_
        refine jv_iconst (v := (-1)) (jv_dk t_X13_stepsTo (k := 18) rfl) (by decide) ?_
        refine jv_icmp_eq (tgt := 43) (jv_dk t_X13_stepsTo (k := 19) rfl) rfl (fun c6 => ?_) (fun c6 => ?_)
        · refine jv_le_row (jv_le_s (jv_le_s (jv_le_n (jv_le_s (jv_le_nil))))) ?_
          exact o_f_X13_stepsTo_b43 hR4 hK4 _ _ _ _ 
        · show jv_O _ _ _ _ 33 _ _ _ _
          refine jv_aload_n (jv_dk t_X13_stepsTo (k := 20) rfl) rfl rfl (Or.inr ⟨_, rfl⟩) ?_
          refine jv_gR (jv_dk t_X13_stepsTo (k := 21) rfl) fl_X13_63 (fun v9 => ?_)
          refine jv_iload_n (jv_dk t_X13_stepsTo (k := 22) rfl) rfl rfl ?_
          refine jv_iaload (jv_dk t_X13_stepsTo (k := 23) rfl) (fun v10 => ?_)
          refine jv_iload_n (jv_dk t_X13_stepsTo (k := 24) rfl) rfl rfl ?_
          refine jv_icmp_ge (tgt := 50) (jv_dk t_X13_stepsTo (k := 25) rfl) rfl (fun c11 => ?_) (fun c11 => ?_)
          · refine jv_iinc (v := 1) (L' := [some (.ref (x0)), some (.int (x1)), some (.int (x2)), some (.int (x3 + 1))]) (jv_dk t_X13_stepsTo (k := 31) rfl) rfl (by decide) rfl ?_
            refine jv_goto (tgt := 4) (jv_dk t_X13_stepsTo (k := 32) rfl) rfl ?_
            exact hR4 _ _ _ _ _ 
          · show jv_O _ _ _ _ 43 _ _ _ _
            refine jv_le_row (jv_le_s (jv_le_s (jv_le_n (jv_le_s (jv_le_nil))))) ?_
            exact o_f_X13_stepsTo_b43 hR4 hK4 _ _ _ _ 
def f_X13_stepsTo (a0 : Nat) (a1 : Int32) (h : jh) : Option (Int32 × jh) :=
  jlp4 (f_X13_stepsTo_h4 (fun y13 h12 =>
  some (y13, h12))) jfu a0 a1 (-1) 0 h
theorem P_X13_stepsTo (X : jx) (a0 : Nat) (a1 : Int32) (h : jh) : jv_P X M_X13_stepsTo jeI [.ref (a0), .int (a1)] h (f_X13_stepsTo a0 a1 h) := by
  refine jv_P.of (by decide) rfl (by simp [Value.category]) (Nat.le_of_ble_eq_true rfl) ?_
  show jv_O X M_X13_stepsTo (h.1, h.2.1) jeI 0 [some (.ref (a0)), some (.int (a1)), none, none] [] h (f_X13_stepsTo a0 a1 h)
  unfold f_X13_stepsTo
  refine jv_iconst (v := (-1)) (jv_dk t_X13_stepsTo (k := 0) rfl) (by decide) ?_
  refine jv_istore_n (L' := [some (.ref (a0)), some (.int (a1)), some (.int ((-1))), none]) (jv_dk t_X13_stepsTo (k := 1) rfl) rfl (Nat.le_of_ble_eq_true rfl) rfl ?_
  refine jv_iconst (v := 0) (jv_dk t_X13_stepsTo (k := 2) rfl) (by decide) ?_
  refine jv_istore_n (L' := [some (.ref (a0)), some (.int (a1)), some (.int ((-1))), some (.int (0))]) (jv_dk t_X13_stepsTo (k := 3) rfl) rfl (Nat.le_of_ble_eq_true rfl) rfl ?_
  refine o_f_X13_stepsTo_h4 (fun y13 h12 => ?_) _ _ _ _ _ 
  show jv_O X M_X13_stepsTo _ jeI 56 [none, none, some (.int (y13)), none] [] h12 _
  refine jv_iload_n (jv_dk t_X13_stepsTo (k := 33) rfl) rfl rfl ?_
  exact jv_iret (ty := .int) (jv_dk t_X13_stepsTo (k := 34) rfl) rfl rfl rfl
def t0_X13_set : List (Nat × Instr × Nat) := [(0, .aload_n 0, 1), (1, .iconst 0, 1), (2, .putfield 96, 3), (5, .aload_n 0, 1), (6, .iload_n 1, 1), (7, .invokevirtual 289, 3), (10, .ifCond .eq 12, 3), (13, .iload_n 2, 1), (14, .iconst 0, 1), (15, .iconst 2, 1), (16, .invokestatic 169, 3), (19, .ifCond .ne 9, 3), (22, .aload_n 0, 1), (23, .iconst 1, 1), (24, .invokevirtual 185, 3), (27, .ireturn, 1), (28, .iload_n 2, 1), (29, .iconst 2, 1), (30, .if_icmp .ge 30, 3), (33, .iload_n 2, 1), (34, .iconst 1, 1), (35, .if_icmp .ne 11, 3), (38, .aload_n 0, 1), (39, .iload_n 1, 1), (40, .invokevirtual 365, 3), (43, .goto 16, 3), (46, .iload_n 1, 1), (47, .ifCond .ne 7, 3), (50, .iconst 0, 1), (51, .goto 8, 3), (54, .aload_n 0, 1), (55, .iload_n 1, 1), (56, .invokevirtual 292, 3), (59, .ireturn, 1), (60, .aload_n 0, 1), (61, .iload_n 1, 1), (62, .invokevirtual 368, 3), (65, .iconst 0, 1), (66, .istore_n 3, 1), (67, .iconst 0, 1), (68, .istore 4, 2), (70, .iload 4, 2), (72, .aload_n 0, 1), (73, .iconst 2, 1), (74, .invokevirtual 208, 3), (77, .if_icmp .ge 30, 3), (80, .iload_n 3, 1), (81, .aload_n 0, 1), (82, .iload 4, 2), (84, .invokevirtual 371, 3), (87, .iconst (-1), 1), (88, .if_icmp .eq 10, 3), (91, .iconst 1, 1), (92, .iload 4, 2), (94, .ishl, 1), (95, .goto 4, 3), (98, .iconst 0, 1), (99, .ior, 1), (100, .istore_n 3, 1), (101, .iinc 4 1, 3), (104, .goto (-34), 3), (107, .iload_n 3, 1), (108, .ireturn, 1)]
theorem t_X13_set : jv_dec cX13_set t0_X13_set = true := by decide +kernel
def M_X13_set : jm := (yX13_set, cX13_set, 5, (some .int), 6, 136, [])
theorem lk_X13_368 : Cond.methodLink RX13 368 M_X13_tellSteps.1 ∈ lw_tbl := (jv_at 1827 (by decide +kernel))
set_option maxRecDepth 20000 in
theorem me_X13_tellSteps : jv_me M_X13_tellSteps 1 := ⟨(jv_in7 (List.mem_of_getElem? (i := 230) rfl)), (jv_at 172 (by decide +kernel)), ⟨by decide, by decide⟩, by decide +kernel⟩
theorem lk_X13_371 : Cond.methodLink RX13 371 M_X13_stepsTo.1 ∈ lw_tbl := (jv_at 1842 (by decide +kernel))
set_option maxRecDepth 20000 in
theorem me_X13_stepsTo : jv_me M_X13_stepsTo 1 := ⟨(jv_in8 (List.mem_of_getElem? (i := 5) rfl)), (jv_at 172 (by decide +kernel)), ⟨by decide, by decide⟩, by decide +kernel⟩
theorem mv_X13_stepsTo : jv_mv M_X13_stepsTo := ⟨(jv_at 1844 (by decide +kernel)), (jv_at 152 (by decide +kernel))⟩
theorem mv_X13_tellSteps : jv_mv M_X13_tellSteps := ⟨(jv_at 1829 (by decide +kernel)), (jv_at 149 (by decide +kernel))⟩
theorem lk_X13_365 : Cond.methodLink RX13 365 M_X13_reach.1 ∈ lw_tbl := (jv_at 1823 (by decide +kernel))
set_option maxRecDepth 20000 in
theorem me_X13_reach : jv_me M_X13_reach 1 := ⟨(jv_in7 (List.mem_of_getElem? (i := 226) rfl)), (jv_at 172 (by decide +kernel)), ⟨by decide, by decide⟩, by decide +kernel⟩
theorem mv_X13_reach : jv_mv M_X13_reach := ⟨(jv_at 1825 (by decide +kernel)), (jv_at 148 (by decide +kernel))⟩
def f_X13_set_b22 (x0 : Nat) (h : jh) : Option (Int32 × jh) :=
  cV h x0 11 (f_X13_fail x0 1 h) fun v5 h6 =>
  some (v5, h6)
theorem o_f_X13_set_b22 {X : jx} {b0 : Nat × Nat} (x0 : Nat) (h : jh) : jv_O X M_X13_set b0 jeI 22 [some (.ref (x0)), none, none, none, none] [] h (f_X13_set_b22 x0 h) := by
  unfold f_X13_set_b22
  refine jv_aload_n (jv_dk t_X13_set (k := 12) rfl) rfl rfl (Or.inr ⟨_, rfl⟩) ?_
  refine jv_iconst (v := 1) (jv_dk t_X13_set (k := 13) rfl) (by decide) ?_
  refine jv_callV (en' := jeI) (pv := jpI) (As := [.int (1)]) (S := []) (jv_dk t_X13_set (k := 14) rfl) (fun _ => rfl) (Or.inl lk_X13_185) me_X13_fail mv_X13_fail ⟨by decide, by decide⟩ rfl rfl rfl (Nat.le_of_ble_eq_true rfl) (P_X13_fail X x0 1 h) (fun v5 h6 => ?_)
  show jv_O X M_X13_set _ jeI 27 [some (.ref (x0)), none, none, none, none] [.int (v5)] h6 _
  exact jv_iret (ty := .int) (jv_dk t_X13_set (k := 15) rfl) rfl rfl rfl
def f_X13_set_h70 (K70 : Int32 → jh → Option (Int32 × jh)) (R70 : Nat → Int32 → Int32 → jh → Option (Int32 × jh)) (x0 : Nat) (x3 : Int32) (x4 : Int32) (h : jh) : Option (Int32 × jh) :=
  cV h x0 11 (f_X13_many x0 2 h) fun v12 h13 =>
  (if v12 ≤ x4 then
  K70 x3 h13
  else
  cV h13 x0 11 (f_X13_stepsTo x0 x4 h13) fun v15 h16 =>
  (if v15 = (-1) then
  R70 x0 (x3 ||| 0) (x4 + 1) h16
  else
  R70 x0 (x3 ||| (1 <<< (x4 &&& 31))) (x4 + 1) h16))
theorem o_f_X13_set_h70 {X : jx} {b0 : Nat × Nat} {K70 : Int32 → jh → Option (Int32 × jh)} (hK70 : ∀ (x3 : Int32) (h : jh), jv_O X M_X13_set b0 jeI 107 [none, none, none, some (.int (x3)), none] [] h (K70 x3 h)) : ∀ (x0 : Nat) (x3 : Int32) (x4 : Int32) (h : jh), jv_O X M_X13_set b0 jeI 70 [some (.ref (x0)), none, none, some (.int (x3)), some (.int (x4))] [] h (jlp3 (f_X13_set_h70 K70) jfu x0 x3 x4 h) := by
  refine jlp3_ok (P := fun x0 x3 x4 h o => jv_O X M_X13_set b0 jeI 70 [some (.ref (x0)), none, none, some (.int (x3)), some (.int (x4))] [] h o) (fun R70 hR70 => ?_) (fun _ _ _ _  => jv_none rfl) jfu
  intro x0 x3 x4 h
  unfold f_X13_set_h70
  refine jv_iload (jv_dk t_X13_set (k := 41) rfl) rfl ?_
  refine jv_aload_n (jv_dk t_X13_set (k := 42) rfl) rfl rfl (Or.inr ⟨_, rfl⟩) ?_
  refine jv_iconst (v := 2) (jv_dk t_X13_set (k := 43) rfl) (by decide) ?_
  refine jv_callV (en' := jeI) (pv := jpI) (As := [.int (2)]) (S := [.int (x4)]) (jv_dk t_X13_set (k := 44) rfl) (fun _ => rfl) (Or.inl lk_X13_208) me_X13_many mv_X13_many ⟨by decide, by decide⟩ rfl rfl rfl (Nat.le_of_ble_eq_true rfl) (P_X13_many X x0 2 h) (fun v12 h13 => ?_)
  show jv_O X M_X13_set _ jeI 77 [some (.ref (x0)), none, none, some (.int (x3)), some (.int (x4))] [.int (v12), .int (x4)] h13 _
  refine jv_icmp_ge (tgt := 107) (jv_dk t_X13_set (k := 45) rfl) rfl (fun c14 => ?_) (fun c14 => ?_)
  · refine jv_le_row (jv_le_n (jv_le_n (jv_le_n (jv_le_s (jv_le_n (jv_le_nil)))))) ?_
    exact hK70 _ _ 
  · show jv_O _ _ _ _ 80 _ _ _ _
    refine jv_iload_n (jv_dk t_X13_set (k := 46) rfl) rfl rfl ?_
    refine jv_aload_n (jv_dk t_X13_set (k := 47) rfl) rfl rfl (Or.inr ⟨_, rfl⟩) ?_
    refine jv_iload (jv_dk t_X13_set (k := 48) rfl) rfl ?_
    refine jv_callV (en' := jeI) (pv := jpI) (As := [.int (x4)]) (S := [.int (x3)]) (jv_dk t_X13_set (k := 49) rfl) (fun _ => rfl) (Or.inl lk_X13_371) me_X13_stepsTo mv_X13_stepsTo ⟨by decide, by decide⟩ rfl rfl rfl (Nat.le_of_ble_eq_true rfl) (P_X13_stepsTo X x0 x4 h13) (fun v15 h16 => ?_)
    show jv_O X M_X13_set _ jeI 87 [some (.ref (x0)), none, none, some (.int (x3)), some (.int (x4))] [.int (v15), .int (x3)] h16 _
    refine jv_iconst (v := (-1)) (jv_dk t_X13_set (k := 50) rfl) (by decide) ?_
    refine jv_icmp_eq (tgt := 98) (jv_dk t_X13_set (k := 51) rfl) rfl (fun c17 => ?_) (fun c17 => ?_)
    · refine jv_iconst (v := 0) (jv_dk t_X13_set (k := 56) rfl) (by decide) ?_
      refine jv_ior (jv_dk t_X13_set (k := 57) rfl) ?_
      refine jv_istore_n (L' := [some (.ref (x0)), none, none, some (.int (x3 ||| 0)), some (.int (x4))]) (jv_dk t_X13_set (k := 58) rfl) rfl (Nat.le_of_ble_eq_true rfl) rfl ?_
      refine jv_iinc (v := 1) (L' := [some (.ref (x0)), none, none, some (.int (x3 ||| 0)), some (.int (x4 + 1))]) (jv_dk t_X13_set (k := 59) rfl) rfl (by decide) rfl ?_
      refine jv_goto (tgt := 70) (jv_dk t_X13_set (k := 60) rfl) rfl ?_
      exact hR70 _ _ _ _ 
    · show jv_O _ _ _ _ 91 _ _ _ _
      refine jv_iconst (v := 1) (jv_dk t_X13_set (k := 52) rfl) (by decide) ?_
      refine jv_iload (jv_dk t_X13_set (k := 53) rfl) rfl ?_
      refine jv_ishl (jv_dk t_X13_set (k := 54) rfl) ?_
      refine jv_goto (tgt := 99) (jv_dk t_X13_set (k := 55) rfl) rfl ?_
      refine jv_ior (jv_dk t_X13_set (k := 57) rfl) ?_
      refine jv_istore_n (L' := [some (.ref (x0)), none, none, some (.int (x3 ||| (1 <<< (x4 &&& 31)))), some (.int (x4))]) (jv_dk t_X13_set (k := 58) rfl) rfl (Nat.le_of_ble_eq_true rfl) rfl ?_
      refine jv_iinc (v := 1) (L' := [some (.ref (x0)), none, none, some (.int (x3 ||| (1 <<< (x4 &&& 31)))), some (.int (x4 + 1))]) (jv_dk t_X13_set (k := 59) rfl) rfl (by decide) rfl ?_
      refine jv_goto (tgt := 70) (jv_dk t_X13_set (k := 60) rfl) rfl ?_
      exact hR70 _ _ _ _ 
def f_X13_set (a0 : Nat) (a1 : Int32) (a2 : Int32) (h : jh) : Option (Int32 × jh) :=
  pV h a0 11 1 (.int (0)) fun h1 =>
  cV h1 a0 11 (f_X13_isThere a0 a1 h1) fun v2 h3 =>
  (if v2 = 0 then
  f_X13_set_b22 a0 h3
  else
  bd (f_X13_isIn a2 0 2 h3) fun v7 h8 =>
  (if ¬ v7 = 0 then
  (if 2 ≤ a2 then
  cV h8 a0 11 (f_X13_tellSteps a0 a1 h8) fun _ h11 =>
  jlp3 (f_X13_set_h70 (fun y19 h18 =>
  some (y19, h18))) jfu a0 0 0 h11
  else
  (if ¬ a2 = 1 then
  (if ¬ a1 = 0 then
  cV h8 a0 11 (f_X13_fall a0 a1 h8) fun v22 h23 =>
  some (v22, h23)
  else
  some (0, h8))
  else
  cV h8 a0 11 (f_X13_reach a0 a1 h8) fun v24 h25 =>
  some (v24, h25)))
  else
  f_X13_set_b22 a0 h8))
theorem P_X13_set (X : jx) (a0 : Nat) (a1 : Int32) (a2 : Int32) (h : jh) : jv_P X M_X13_set jeI [.ref (a0), .int (a1), .int (a2)] h (f_X13_set a0 a1 a2 h) := by
  refine jv_P.of (by decide) rfl (by simp [Value.category]) (Nat.le_of_ble_eq_true rfl) ?_
  show jv_O X M_X13_set (h.1, h.2.1) jeI 0 [some (.ref (a0)), some (.int (a1)), some (.int (a2)), none, none] [] h (f_X13_set a0 a1 a2 h)
  unfold f_X13_set
  refine jv_aload_n (jv_dk t_X13_set (k := 0) rfl) rfl rfl (Or.inr ⟨_, rfl⟩) ?_
  refine jv_iconst (v := 0) (jv_dk t_X13_set (k := 1) rfl) (by decide) ?_
  refine jv_pV (jv_dk t_X13_set (k := 2) rfl) fl_X13_96 kX13 (Or.inl rfl) rfl rfl rfl (fun h1 => ?_)
  refine jv_aload_n (jv_dk t_X13_set (k := 3) rfl) rfl rfl (Or.inr ⟨_, rfl⟩) ?_
  refine jv_iload_n (jv_dk t_X13_set (k := 4) rfl) rfl rfl ?_
  refine jv_callV (en' := jeI) (pv := jpI) (As := [.int (a1)]) (S := []) (jv_dk t_X13_set (k := 5) rfl) (fun _ => rfl) (Or.inl lk_X13_289) me_X13_isThere mv_X13_isThere ⟨by decide, by decide⟩ rfl rfl rfl (Nat.le_of_ble_eq_true rfl) (P_X13_isThere X a0 a1 h1) (fun v2 h3 => ?_)
  show jv_O X M_X13_set _ jeI 10 [some (.ref (a0)), some (.int (a1)), some (.int (a2)), none, none] [.int (v2)] h3 _
  refine jv_if_eq (tgt := 22) (jv_dk t_X13_set (k := 6) rfl) rfl (fun c4 => ?_) (fun c4 => ?_)
  · refine jv_le_row (jv_le_s (jv_le_n (jv_le_n (jv_le_n (jv_le_n (jv_le_nil)))))) ?_
    exact o_f_X13_set_b22 _ _ 
  · show jv_O _ _ _ _ 13 _ _ _ _
    refine jv_iload_n (jv_dk t_X13_set (k := 7) rfl) rfl rfl ?_
    refine jv_iconst (v := 0) (jv_dk t_X13_set (k := 8) rfl) (by decide) ?_
    refine jv_iconst (v := 2) (jv_dk t_X13_set (k := 9) rfl) (by decide) ?_
    refine jv_callS (en' := jeI) (pv := jpI) (As := [.int (a2), .int (0), .int (2)]) (S := []) (jv_dk t_X13_set (k := 10) rfl) (fun _ => rfl) (Or.inl lk_X13_169) me_X13_isIn ms_X13_isIn ⟨by decide, by decide⟩ rfl rfl (Nat.le_of_ble_eq_true rfl) (P_X13_isIn X a2 0 2 h3) (fun v7 h8 => ?_)
    show jv_O X M_X13_set _ jeI 19 [some (.ref (a0)), some (.int (a1)), some (.int (a2)), none, none] [.int (v7)] h8 _
    refine jv_if_ne (tgt := 28) (jv_dk t_X13_set (k := 11) rfl) rfl (fun c9 => ?_) (fun c9 => ?_)
    · refine jv_iload_n (jv_dk t_X13_set (k := 16) rfl) rfl rfl ?_
      refine jv_iconst (v := 2) (jv_dk t_X13_set (k := 17) rfl) (by decide) ?_
      refine jv_icmp_ge (tgt := 60) (jv_dk t_X13_set (k := 18) rfl) rfl (fun c10 => ?_) (fun c10 => ?_)
      · refine jv_aload_n (jv_dk t_X13_set (k := 34) rfl) rfl rfl (Or.inr ⟨_, rfl⟩) ?_
        refine jv_iload_n (jv_dk t_X13_set (k := 35) rfl) rfl rfl ?_
        refine jv_callV (en' := jeV) (pv := jpV) (As := [.int (a1)]) (S := []) (jv_dk t_X13_set (k := 36) rfl) (fun _ => rfl) (Or.inl lk_X13_368) me_X13_tellSteps mv_X13_tellSteps ⟨by decide, by decide⟩ rfl rfl rfl (Nat.le_of_ble_eq_true rfl) (P_X13_tellSteps X a0 a1 h8) (fun _ h11 => ?_)
        show jv_O X M_X13_set _ jeI 65 [some (.ref (a0)), some (.int (a1)), some (.int (a2)), none, none] [] h11 _
        refine jv_iconst (v := 0) (jv_dk t_X13_set (k := 37) rfl) (by decide) ?_
        refine jv_istore_n (L' := [some (.ref (a0)), some (.int (a1)), some (.int (a2)), some (.int (0)), none]) (jv_dk t_X13_set (k := 38) rfl) rfl (Nat.le_of_ble_eq_true rfl) rfl ?_
        refine jv_iconst (v := 0) (jv_dk t_X13_set (k := 39) rfl) (by decide) ?_
        refine jv_istore (L' := [some (.ref (a0)), some (.int (a1)), some (.int (a2)), some (.int (0)), some (.int (0))]) (jv_dk t_X13_set (k := 40) rfl) (Nat.le_of_ble_eq_true rfl) rfl ?_
        refine jv_le_row (jv_le_s (jv_le_n (jv_le_n (jv_le_s (jv_le_s (jv_le_nil)))))) ?_
        refine o_f_X13_set_h70 (fun y19 h18 => ?_) _ _ _ _ 
        show jv_O X M_X13_set _ jeI 107 [none, none, none, some (.int (y19)), none] [] h18 _
        refine jv_iload_n (jv_dk t_X13_set (k := 61) rfl) rfl rfl ?_
        exact jv_iret (ty := .int) (jv_dk t_X13_set (k := 62) rfl) rfl rfl rfl
      · show jv_O _ _ _ _ 33 _ _ _ _
        refine jv_iload_n (jv_dk t_X13_set (k := 19) rfl) rfl rfl ?_
        refine jv_iconst (v := 1) (jv_dk t_X13_set (k := 20) rfl) (by decide) ?_
        refine jv_icmp_ne (tgt := 46) (jv_dk t_X13_set (k := 21) rfl) rfl (fun c20 => ?_) (fun c20 => ?_)
        · refine jv_iload_n (jv_dk t_X13_set (k := 26) rfl) rfl rfl ?_
          refine jv_if_ne (tgt := 54) (jv_dk t_X13_set (k := 27) rfl) rfl (fun c21 => ?_) (fun c21 => ?_)
          · refine jv_aload_n (jv_dk t_X13_set (k := 30) rfl) rfl rfl (Or.inr ⟨_, rfl⟩) ?_
            refine jv_iload_n (jv_dk t_X13_set (k := 31) rfl) rfl rfl ?_
            refine jv_callV (en' := jeI) (pv := jpI) (As := [.int (a1)]) (S := []) (jv_dk t_X13_set (k := 32) rfl) (fun _ => rfl) (Or.inl lk_X13_292) me_X13_fall mv_X13_fall ⟨by decide, by decide⟩ rfl rfl rfl (Nat.le_of_ble_eq_true rfl) (P_X13_fall X a0 a1 h8) (fun v22 h23 => ?_)
            show jv_O X M_X13_set _ jeI 59 [some (.ref (a0)), some (.int (a1)), some (.int (a2)), none, none] [.int (v22)] h23 _
            exact jv_iret (ty := .int) (jv_dk t_X13_set (k := 33) rfl) rfl rfl rfl
          · show jv_O _ _ _ _ 50 _ _ _ _
            refine jv_iconst (v := 0) (jv_dk t_X13_set (k := 28) rfl) (by decide) ?_
            refine jv_goto (tgt := 59) (jv_dk t_X13_set (k := 29) rfl) rfl ?_
            exact jv_iret (ty := .int) (jv_dk t_X13_set (k := 33) rfl) rfl rfl rfl
        · show jv_O _ _ _ _ 38 _ _ _ _
          refine jv_aload_n (jv_dk t_X13_set (k := 22) rfl) rfl rfl (Or.inr ⟨_, rfl⟩) ?_
          refine jv_iload_n (jv_dk t_X13_set (k := 23) rfl) rfl rfl ?_
          refine jv_callV (en' := jeI) (pv := jpI) (As := [.int (a1)]) (S := []) (jv_dk t_X13_set (k := 24) rfl) (fun _ => rfl) (Or.inl lk_X13_365) me_X13_reach mv_X13_reach ⟨by decide, by decide⟩ rfl rfl rfl (Nat.le_of_ble_eq_true rfl) (P_X13_reach X a0 a1 h8) (fun v24 h25 => ?_)
          show jv_O X M_X13_set _ jeI 43 [some (.ref (a0)), some (.int (a1)), some (.int (a2)), none, none] [.int (v24)] h25 _
          refine jv_goto (tgt := 59) (jv_dk t_X13_set (k := 25) rfl) rfl ?_
          exact jv_iret (ty := .int) (jv_dk t_X13_set (k := 33) rfl) rfl rfl rfl
    · show jv_O _ _ _ _ 22 _ _ _ _
      refine jv_le_row (jv_le_s (jv_le_n (jv_le_n (jv_le_n (jv_le_n (jv_le_nil)))))) ?_
      exact o_f_X13_set_b22 _ _ 
