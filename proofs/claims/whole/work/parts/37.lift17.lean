def t0_X13_image : List (Nat × Instr × Nat) := [(0, .aload_n 0, 1), (1, .iconst 0, 1), (2, .putfield 96, 3), (5, .aload_n 0, 1), (6, .iconst 1, 1), (7, .putfield 201, 3), (10, .aload_n 0, 1), (11, .aload_n 0, 1), (12, .getfield 195, 3), (15, .putfield 403, 3), (18, .aload_n 0, 1), (19, .aload_n 0, 1), (20, .getfield 198, 3), (23, .putfield 406, 3), (26, .aload_n 0, 1), (27, .getfield 75, 3), (30, .aload_n 0, 1), (31, .getfield 37, 3), (34, .invokestatic 323, 3), (37, .aload_n 0, 1), (38, .getfield 78, 3), (41, .aload_n 0, 1), (42, .getfield 57, 3), (45, .invokestatic 323, 3), (48, .aload_n 0, 1), (49, .getfield 81, 3), (52, .aload_n 0, 1), (53, .getfield 66, 3), (56, .invokestatic 323, 3), (59, .aload_n 0, 1), (60, .getfield 84, 3), (63, .aload_n 0, 1), (64, .getfield 69, 3), (67, .invokestatic 323, 3), (70, .aload_n 0, 1), (71, .getfield 87, 3), (74, .aload_n 0, 1), (75, .getfield 72, 3), (78, .invokestatic 323, 3), (81, .aload_n 0, 1), (82, .getfield 90, 3), (85, .aload_n 0, 1), (86, .getfield 41, 3), (89, .invokestatic 323, 3), (92, .return_, 1)]
theorem t_X13_image : jv_dec cX13_image t0_X13_image = true := by decide +kernel
def M_X13_image : jm := (yX13_image, cX13_image, 1, none, 1, 22, [])
theorem fl_X13_403 : jv_F RX13 403 11 28 RX13 TX13 36 := ⟨rfl, by decide, inX13, Or.inl (jv_at 1400 (by decide +kernel))⟩
theorem fl_X13_406 : jv_F RX13 406 11 29 RX13 TX13 36 := ⟨rfl, by decide, inX13, Or.inl (jv_at 1401 (by decide +kernel))⟩
def f_X13_image (a0 : Nat) (h : jh) : Option (Unit × jh) :=
  pV h a0 11 1 (.int (0)) fun h1 =>
  pV h1 a0 11 27 (.int (1)) fun h2 =>
  gI h2 a0 11 18 fun v3 =>
  pV h2 a0 11 28 (.int (v3)) fun h4 =>
  gI h4 a0 11 22 fun v5 =>
  pV h4 a0 11 29 (.int (v5)) fun h6 =>
  gR h6 a0 11 30 fun v7 =>
  gR h6 a0 11 2 fun v8 =>
  bd (f_X13_copyTo v7 v8 h6) fun _ h9 =>
  gR h9 a0 11 31 fun v10 =>
  gR h9 a0 11 19 fun v11 =>
  bd (f_X13_copyTo v10 v11 h9) fun _ h12 =>
  gR h12 a0 11 32 fun v13 =>
  gR h12 a0 11 23 fun v14 =>
  bd (f_X13_copyTo v13 v14 h12) fun _ h15 =>
  gR h15 a0 11 33 fun v16 =>
  gR h15 a0 11 24 fun v17 =>
  bd (f_X13_copyTo v16 v17 h15) fun _ h18 =>
  gR h18 a0 11 34 fun v19 =>
  gR h18 a0 11 25 fun v20 =>
  bd (f_X13_copyTo v19 v20 h18) fun _ h21 =>
  gR h21 a0 11 35 fun v22 =>
  gR h21 a0 11 3 fun v23 =>
  bd (f_X13_copyTo v22 v23 h21) fun _ h24 =>
  some ((), h24)
theorem P_X13_image (X : jx) (a0 : Nat) (h : jh) : jv_P X M_X13_image jeV [.ref (a0)] h (f_X13_image a0 h) := by
  refine jv_P.of (by decide) rfl (by simp [Value.category]) (Nat.le_of_ble_eq_true rfl) ?_
  show jv_O X M_X13_image (h.1, h.2.1) jeV 0 [some (.ref (a0))] [] h (f_X13_image a0 h)
  unfold f_X13_image
  refine jv_aload_n (jv_dk t_X13_image (k := 0) rfl) rfl rfl (Or.inr ⟨_, rfl⟩) ?_
  refine jv_iconst (v := 0) (jv_dk t_X13_image (k := 1) rfl) (by decide) ?_
  refine jv_pV (jv_dk t_X13_image (k := 2) rfl) fl_X13_96 kX13 (Or.inl rfl) rfl rfl rfl (fun h1 => ?_)
  refine jv_aload_n (jv_dk t_X13_image (k := 3) rfl) rfl rfl (Or.inr ⟨_, rfl⟩) ?_
  refine jv_iconst (v := 1) (jv_dk t_X13_image (k := 4) rfl) (by decide) ?_
  refine jv_pV (jv_dk t_X13_image (k := 5) rfl) fl_X13_201 kX13 (Or.inl rfl) rfl rfl rfl (fun h2 => ?_)
  refine jv_aload_n (jv_dk t_X13_image (k := 6) rfl) rfl rfl (Or.inr ⟨_, rfl⟩) ?_
  refine jv_aload_n (jv_dk t_X13_image (k := 7) rfl) rfl rfl (Or.inr ⟨_, rfl⟩) ?_
  refine jv_gI (jv_dk t_X13_image (k := 8) rfl) fl_X13_195 (fun v3 => ?_)
  refine jv_pV (jv_dk t_X13_image (k := 9) rfl) fl_X13_403 kX13 (Or.inl rfl) rfl rfl rfl (fun h4 => ?_)
  refine jv_aload_n (jv_dk t_X13_image (k := 10) rfl) rfl rfl (Or.inr ⟨_, rfl⟩) ?_
  refine jv_aload_n (jv_dk t_X13_image (k := 11) rfl) rfl rfl (Or.inr ⟨_, rfl⟩) ?_
  refine jv_gI (jv_dk t_X13_image (k := 12) rfl) fl_X13_198 (fun v5 => ?_)
  refine jv_pV (jv_dk t_X13_image (k := 13) rfl) fl_X13_406 kX13 (Or.inl rfl) rfl rfl rfl (fun h6 => ?_)
  refine jv_aload_n (jv_dk t_X13_image (k := 14) rfl) rfl rfl (Or.inr ⟨_, rfl⟩) ?_
  refine jv_gR (jv_dk t_X13_image (k := 15) rfl) fl_X13_75 (fun v7 => ?_)
  refine jv_aload_n (jv_dk t_X13_image (k := 16) rfl) rfl rfl (Or.inr ⟨_, rfl⟩) ?_
  refine jv_gR (jv_dk t_X13_image (k := 17) rfl) fl_X13_37 (fun v8 => ?_)
  refine jv_callS (en' := jeV) (pv := jpV) (As := [.ref (v7), .ref (v8)]) (S := []) (jv_dk t_X13_image (k := 18) rfl) (fun _ => rfl) (Or.inl lk_X13_323) me_X13_copyTo ms_X13_copyTo ⟨by decide, by decide⟩ rfl rfl (Nat.le_of_ble_eq_true rfl) (P_X13_copyTo X v7 v8 h6) (fun _ h9 => ?_)
  show jv_O X M_X13_image _ jeV 37 [some (.ref (a0))] [] h9 _
  refine jv_aload_n (jv_dk t_X13_image (k := 19) rfl) rfl rfl (Or.inr ⟨_, rfl⟩) ?_
  refine jv_gR (jv_dk t_X13_image (k := 20) rfl) fl_X13_78 (fun v10 => ?_)
  refine jv_aload_n (jv_dk t_X13_image (k := 21) rfl) rfl rfl (Or.inr ⟨_, rfl⟩) ?_
  refine jv_gR (jv_dk t_X13_image (k := 22) rfl) fl_X13_57 (fun v11 => ?_)
  refine jv_callS (en' := jeV) (pv := jpV) (As := [.ref (v10), .ref (v11)]) (S := []) (jv_dk t_X13_image (k := 23) rfl) (fun _ => rfl) (Or.inl lk_X13_323) me_X13_copyTo ms_X13_copyTo ⟨by decide, by decide⟩ rfl rfl (Nat.le_of_ble_eq_true rfl) (P_X13_copyTo X v10 v11 h9) (fun _ h12 => ?_)
  show jv_O X M_X13_image _ jeV 48 [some (.ref (a0))] [] h12 _
  refine jv_aload_n (jv_dk t_X13_image (k := 24) rfl) rfl rfl (Or.inr ⟨_, rfl⟩) ?_
  refine jv_gR (jv_dk t_X13_image (k := 25) rfl) fl_X13_81 (fun v13 => ?_)
  refine jv_aload_n (jv_dk t_X13_image (k := 26) rfl) rfl rfl (Or.inr ⟨_, rfl⟩) ?_
  refine jv_gR (jv_dk t_X13_image (k := 27) rfl) fl_X13_66 (fun v14 => ?_)
  refine jv_callS (en' := jeV) (pv := jpV) (As := [.ref (v13), .ref (v14)]) (S := []) (jv_dk t_X13_image (k := 28) rfl) (fun _ => rfl) (Or.inl lk_X13_323) me_X13_copyTo ms_X13_copyTo ⟨by decide, by decide⟩ rfl rfl (Nat.le_of_ble_eq_true rfl) (P_X13_copyTo X v13 v14 h12) (fun _ h15 => ?_)
  show jv_O X M_X13_image _ jeV 59 [some (.ref (a0))] [] h15 _
  refine jv_aload_n (jv_dk t_X13_image (k := 29) rfl) rfl rfl (Or.inr ⟨_, rfl⟩) ?_
  refine jv_gR (jv_dk t_X13_image (k := 30) rfl) fl_X13_84 (fun v16 => ?_)
  refine jv_aload_n (jv_dk t_X13_image (k := 31) rfl) rfl rfl (Or.inr ⟨_, rfl⟩) ?_
  refine jv_gR (jv_dk t_X13_image (k := 32) rfl) fl_X13_69 (fun v17 => ?_)
  refine jv_callS (en' := jeV) (pv := jpV) (As := [.ref (v16), .ref (v17)]) (S := []) (jv_dk t_X13_image (k := 33) rfl) (fun _ => rfl) (Or.inl lk_X13_323) me_X13_copyTo ms_X13_copyTo ⟨by decide, by decide⟩ rfl rfl (Nat.le_of_ble_eq_true rfl) (P_X13_copyTo X v16 v17 h15) (fun _ h18 => ?_)
  show jv_O X M_X13_image _ jeV 70 [some (.ref (a0))] [] h18 _
  refine jv_aload_n (jv_dk t_X13_image (k := 34) rfl) rfl rfl (Or.inr ⟨_, rfl⟩) ?_
  refine jv_gR (jv_dk t_X13_image (k := 35) rfl) fl_X13_87 (fun v19 => ?_)
  refine jv_aload_n (jv_dk t_X13_image (k := 36) rfl) rfl rfl (Or.inr ⟨_, rfl⟩) ?_
  refine jv_gR (jv_dk t_X13_image (k := 37) rfl) fl_X13_72 (fun v20 => ?_)
  refine jv_callS (en' := jeV) (pv := jpV) (As := [.ref (v19), .ref (v20)]) (S := []) (jv_dk t_X13_image (k := 38) rfl) (fun _ => rfl) (Or.inl lk_X13_323) me_X13_copyTo ms_X13_copyTo ⟨by decide, by decide⟩ rfl rfl (Nat.le_of_ble_eq_true rfl) (P_X13_copyTo X v19 v20 h18) (fun _ h21 => ?_)
  show jv_O X M_X13_image _ jeV 81 [some (.ref (a0))] [] h21 _
  refine jv_aload_n (jv_dk t_X13_image (k := 39) rfl) rfl rfl (Or.inr ⟨_, rfl⟩) ?_
  refine jv_gR (jv_dk t_X13_image (k := 40) rfl) fl_X13_90 (fun v22 => ?_)
  refine jv_aload_n (jv_dk t_X13_image (k := 41) rfl) rfl rfl (Or.inr ⟨_, rfl⟩) ?_
  refine jv_gR (jv_dk t_X13_image (k := 42) rfl) fl_X13_41 (fun v23 => ?_)
  refine jv_callS (en' := jeV) (pv := jpV) (As := [.ref (v22), .ref (v23)]) (S := []) (jv_dk t_X13_image (k := 43) rfl) (fun _ => rfl) (Or.inl lk_X13_323) me_X13_copyTo ms_X13_copyTo ⟨by decide, by decide⟩ rfl rfl (Nat.le_of_ble_eq_true rfl) (P_X13_copyTo X v22 v23 h21) (fun _ h24 => ?_)
  show jv_O X M_X13_image _ jeV 92 [some (.ref (a0))] [] h24 _
  exact jv_vret (jv_dk t_X13_image (k := 44) rfl) rfl rfl
def t0_X13_restore : List (Nat × Instr × Nat) := [(0, .aload_n 0, 1), (1, .iconst 0, 1), (2, .putfield 96, 3), (5, .aload_n 0, 1), (6, .getfield 201, 3), (9, .ifCond .ne 5, 3), (12, .iconst 0, 1), (13, .ireturn, 1), (14, .aload_n 0, 1), (15, .aload_n 0, 1), (16, .getfield 403, 3), (19, .putfield 195, 3), (22, .aload_n 0, 1), (23, .aload_n 0, 1), (24, .getfield 406, 3), (27, .putfield 198, 3), (30, .aload_n 0, 1), (31, .getfield 37, 3), (34, .aload_n 0, 1), (35, .getfield 75, 3), (38, .invokestatic 323, 3), (41, .aload_n 0, 1), (42, .getfield 57, 3), (45, .aload_n 0, 1), (46, .getfield 78, 3), (49, .invokestatic 323, 3), (52, .aload_n 0, 1), (53, .getfield 66, 3), (56, .aload_n 0, 1), (57, .getfield 81, 3), (60, .invokestatic 323, 3), (63, .aload_n 0, 1), (64, .getfield 69, 3), (67, .aload_n 0, 1), (68, .getfield 84, 3), (71, .invokestatic 323, 3), (74, .aload_n 0, 1), (75, .getfield 72, 3), (78, .aload_n 0, 1), (79, .getfield 87, 3), (82, .invokestatic 323, 3), (85, .aload_n 0, 1), (86, .getfield 41, 3), (89, .aload_n 0, 1), (90, .getfield 90, 3), (93, .invokestatic 323, 3), (96, .iconst 1, 1), (97, .ireturn, 1)]
theorem t_X13_restore : jv_dec cX13_restore t0_X13_restore = true := by decide +kernel
def M_X13_restore : jm := (yX13_restore, cX13_restore, 1, (some .boolean), 1, 22, [])
def f_X13_restore (a0 : Nat) (h : jh) : Option (Int32 × jh) :=
  pV h a0 11 1 (.int (0)) fun h1 =>
  gI h1 a0 11 27 fun v2 =>
  (if ¬ v2 = 0 then
  gI h1 a0 11 28 fun v4 =>
  pV h1 a0 11 18 (.int (v4)) fun h5 =>
  gI h5 a0 11 29 fun v6 =>
  pV h5 a0 11 22 (.int (v6)) fun h7 =>
  gR h7 a0 11 2 fun v8 =>
  gR h7 a0 11 30 fun v9 =>
  bd (f_X13_copyTo v8 v9 h7) fun _ h10 =>
  gR h10 a0 11 19 fun v11 =>
  gR h10 a0 11 31 fun v12 =>
  bd (f_X13_copyTo v11 v12 h10) fun _ h13 =>
  gR h13 a0 11 23 fun v14 =>
  gR h13 a0 11 32 fun v15 =>
  bd (f_X13_copyTo v14 v15 h13) fun _ h16 =>
  gR h16 a0 11 24 fun v17 =>
  gR h16 a0 11 33 fun v18 =>
  bd (f_X13_copyTo v17 v18 h16) fun _ h19 =>
  gR h19 a0 11 25 fun v20 =>
  gR h19 a0 11 34 fun v21 =>
  bd (f_X13_copyTo v20 v21 h19) fun _ h22 =>
  gR h22 a0 11 3 fun v23 =>
  gR h22 a0 11 35 fun v24 =>
  bd (f_X13_copyTo v23 v24 h22) fun _ h25 =>
  some (1, h25)
  else
  some (0, h1))
theorem P_X13_restore (X : jx) (a0 : Nat) (h : jh) : jv_P X M_X13_restore jeI [.ref (a0)] h (f_X13_restore a0 h) := by
  refine jv_P.of (by decide) rfl (by simp [Value.category]) (Nat.le_of_ble_eq_true rfl) ?_
  show jv_O X M_X13_restore (h.1, h.2.1) jeI 0 [some (.ref (a0))] [] h (f_X13_restore a0 h)
  unfold f_X13_restore
  refine jv_aload_n (jv_dk t_X13_restore (k := 0) rfl) rfl rfl (Or.inr ⟨_, rfl⟩) ?_
  refine jv_iconst (v := 0) (jv_dk t_X13_restore (k := 1) rfl) (by decide) ?_
  refine jv_pV (jv_dk t_X13_restore (k := 2) rfl) fl_X13_96 kX13 (Or.inl rfl) rfl rfl rfl (fun h1 => ?_)
  refine jv_aload_n (jv_dk t_X13_restore (k := 3) rfl) rfl rfl (Or.inr ⟨_, rfl⟩) ?_
  refine jv_gI (jv_dk t_X13_restore (k := 4) rfl) fl_X13_201 (fun v2 => ?_)
  refine jv_if_ne (tgt := 14) (jv_dk t_X13_restore (k := 5) rfl) rfl (fun c3 => ?_) (fun c3 => ?_)
  · refine jv_aload_n (jv_dk t_X13_restore (k := 8) rfl) rfl rfl (Or.inr ⟨_, rfl⟩) ?_
    refine jv_aload_n (jv_dk t_X13_restore (k := 9) rfl) rfl rfl (Or.inr ⟨_, rfl⟩) ?_
    refine jv_gI (jv_dk t_X13_restore (k := 10) rfl) fl_X13_403 (fun v4 => ?_)
    refine jv_pV (jv_dk t_X13_restore (k := 11) rfl) fl_X13_195 kX13 (Or.inl rfl) rfl rfl rfl (fun h5 => ?_)
    refine jv_aload_n (jv_dk t_X13_restore (k := 12) rfl) rfl rfl (Or.inr ⟨_, rfl⟩) ?_
    refine jv_aload_n (jv_dk t_X13_restore (k := 13) rfl) rfl rfl (Or.inr ⟨_, rfl⟩) ?_
    refine jv_gI (jv_dk t_X13_restore (k := 14) rfl) fl_X13_406 (fun v6 => ?_)
    refine jv_pV (jv_dk t_X13_restore (k := 15) rfl) fl_X13_198 kX13 (Or.inl rfl) rfl rfl rfl (fun h7 => ?_)
    refine jv_aload_n (jv_dk t_X13_restore (k := 16) rfl) rfl rfl (Or.inr ⟨_, rfl⟩) ?_
    refine jv_gR (jv_dk t_X13_restore (k := 17) rfl) fl_X13_37 (fun v8 => ?_)
    refine jv_aload_n (jv_dk t_X13_restore (k := 18) rfl) rfl rfl (Or.inr ⟨_, rfl⟩) ?_
    refine jv_gR (jv_dk t_X13_restore (k := 19) rfl) fl_X13_75 (fun v9 => ?_)
    refine jv_callS (en' := jeV) (pv := jpV) (As := [.ref (v8), .ref (v9)]) (S := []) (jv_dk t_X13_restore (k := 20) rfl) (fun _ => rfl) (Or.inl lk_X13_323) me_X13_copyTo ms_X13_copyTo ⟨by decide, by decide⟩ rfl rfl (Nat.le_of_ble_eq_true rfl) (P_X13_copyTo X v8 v9 h7) (fun _ h10 => ?_)
    show jv_O X M_X13_restore _ jeI 41 [some (.ref (a0))] [] h10 _
    refine jv_aload_n (jv_dk t_X13_restore (k := 21) rfl) rfl rfl (Or.inr ⟨_, rfl⟩) ?_
    refine jv_gR (jv_dk t_X13_restore (k := 22) rfl) fl_X13_57 (fun v11 => ?_)
    refine jv_aload_n (jv_dk t_X13_restore (k := 23) rfl) rfl rfl (Or.inr ⟨_, rfl⟩) ?_
    refine jv_gR (jv_dk t_X13_restore (k := 24) rfl) fl_X13_78 (fun v12 => ?_)
    refine jv_callS (en' := jeV) (pv := jpV) (As := [.ref (v11), .ref (v12)]) (S := []) (jv_dk t_X13_restore (k := 25) rfl) (fun _ => rfl) (Or.inl lk_X13_323) me_X13_copyTo ms_X13_copyTo ⟨by decide, by decide⟩ rfl rfl (Nat.le_of_ble_eq_true rfl) (P_X13_copyTo X v11 v12 h10) (fun _ h13 => ?_)
    show jv_O X M_X13_restore _ jeI 52 [some (.ref (a0))] [] h13 _
    refine jv_aload_n (jv_dk t_X13_restore (k := 26) rfl) rfl rfl (Or.inr ⟨_, rfl⟩) ?_
    refine jv_gR (jv_dk t_X13_restore (k := 27) rfl) fl_X13_66 (fun v14 => ?_)
    refine jv_aload_n (jv_dk t_X13_restore (k := 28) rfl) rfl rfl (Or.inr ⟨_, rfl⟩) ?_
    refine jv_gR (jv_dk t_X13_restore (k := 29) rfl) fl_X13_81 (fun v15 => ?_)
    refine jv_callS (en' := jeV) (pv := jpV) (As := [.ref (v14), .ref (v15)]) (S := []) (jv_dk t_X13_restore (k := 30) rfl) (fun _ => rfl) (Or.inl lk_X13_323) me_X13_copyTo ms_X13_copyTo ⟨by decide, by decide⟩ rfl rfl (Nat.le_of_ble_eq_true rfl) (P_X13_copyTo X v14 v15 h13) (fun _ h16 => ?_)
    show jv_O X M_X13_restore _ jeI 63 [some (.ref (a0))] [] h16 _
    refine jv_aload_n (jv_dk t_X13_restore (k := 31) rfl) rfl rfl (Or.inr ⟨_, rfl⟩) ?_
    refine jv_gR (jv_dk t_X13_restore (k := 32) rfl) fl_X13_69 (fun v17 => ?_)
    refine jv_aload_n (jv_dk t_X13_restore (k := 33) rfl) rfl rfl (Or.inr ⟨_, rfl⟩) ?_
    refine jv_gR (jv_dk t_X13_restore (k := 34) rfl) fl_X13_84 (fun v18 => ?_)
    refine jv_callS (en' := jeV) (pv := jpV) (As := [.ref (v17), .ref (v18)]) (S := []) (jv_dk t_X13_restore (k := 35) rfl) (fun _ => rfl) (Or.inl lk_X13_323) me_X13_copyTo ms_X13_copyTo ⟨by decide, by decide⟩ rfl rfl (Nat.le_of_ble_eq_true rfl) (P_X13_copyTo X v17 v18 h16) (fun _ h19 => ?_)
    show jv_O X M_X13_restore _ jeI 74 [some (.ref (a0))] [] h19 _
    refine jv_aload_n (jv_dk t_X13_restore (k := 36) rfl) rfl rfl (Or.inr ⟨_, rfl⟩) ?_
    refine jv_gR (jv_dk t_X13_restore (k := 37) rfl) fl_X13_72 (fun v20 => ?_)
    refine jv_aload_n (jv_dk t_X13_restore (k := 38) rfl) rfl rfl (Or.inr ⟨_, rfl⟩) ?_
    refine jv_gR (jv_dk t_X13_restore (k := 39) rfl) fl_X13_87 (fun v21 => ?_)
    refine jv_callS (en' := jeV) (pv := jpV) (As := [.ref (v20), .ref (v21)]) (S := []) (jv_dk t_X13_restore (k := 40) rfl) (fun _ => rfl) (Or.inl lk_X13_323) me_X13_copyTo ms_X13_copyTo ⟨by decide, by decide⟩ rfl rfl (Nat.le_of_ble_eq_true rfl) (P_X13_copyTo X v20 v21 h19) (fun _ h22 => ?_)
    show jv_O X M_X13_restore _ jeI 85 [some (.ref (a0))] [] h22 _
    refine jv_aload_n (jv_dk t_X13_restore (k := 41) rfl) rfl rfl (Or.inr ⟨_, rfl⟩) ?_
    refine jv_gR (jv_dk t_X13_restore (k := 42) rfl) fl_X13_41 (fun v23 => ?_)
    refine jv_aload_n (jv_dk t_X13_restore (k := 43) rfl) rfl rfl (Or.inr ⟨_, rfl⟩) ?_
    refine jv_gR (jv_dk t_X13_restore (k := 44) rfl) fl_X13_90 (fun v24 => ?_)
    refine jv_callS (en' := jeV) (pv := jpV) (As := [.ref (v23), .ref (v24)]) (S := []) (jv_dk t_X13_restore (k := 45) rfl) (fun _ => rfl) (Or.inl lk_X13_323) me_X13_copyTo ms_X13_copyTo ⟨by decide, by decide⟩ rfl rfl (Nat.le_of_ble_eq_true rfl) (P_X13_copyTo X v23 v24 h22) (fun _ h25 => ?_)
    show jv_O X M_X13_restore _ jeI 96 [some (.ref (a0))] [] h25 _
    refine jv_iconst (v := 1) (jv_dk t_X13_restore (k := 46) rfl) (by decide) ?_
    exact jv_iret (ty := .boolean) (jv_dk t_X13_restore (k := 47) rfl) rfl rfl rfl
  · show jv_O _ _ _ _ 12 _ _ _ _
    refine jv_iconst (v := 0) (jv_dk t_X13_restore (k := 6) rfl) (by decide) ?_
    exact jv_iret (ty := .boolean) (jv_dk t_X13_restore (k := 7) rfl) rfl rfl rfl
def t0_L_spaces : List (Nat × Instr × Nat) := [(0, .aload_n 2, 1), (1, .iconst 0, 1), (2, .aload_n 0, 1), (3, .iload_n 1, 1), (4, .invokevirtual 7, 3), (7, .i2l, 1), (8, .lastore, 1), (9, .goto 6, 3), (12, .astore_n 3, 1), (13, .iconst 1, 1), (14, .ireturn, 1), (15, .iconst 0, 1), (16, .ireturn, 1)]
theorem t_L_spaces : jv_dec cL_spaces t0_L_spaces = true := by decide +kernel
def M_L_spaces : jm := (yL_spaces, cL_spaces, 4, (some .int), 11, 316, [(0, 9, 12, 13)])
theorem lk_L_7 : Cond.methodLink RL 7 M_X12_spaces.1 ∈ lw_tbl := (jv_at 940 (by decide +kernel))
set_option maxRecDepth 20000 in
theorem me_X12_spaces : jv_me M_X12_spaces 1 := ⟨(jv_in4 (List.mem_of_getElem? (i := 63) rfl)), (jv_at 161 (by decide +kernel)), ⟨by decide, by decide⟩, by decide +kernel⟩
theorem ca_IllegalArgumentException : Cond.castable "java/lang/IllegalArgumentException" "java/lang/IllegalArgumentException" ∈ lw_tbl := (jv_at 946 (by decide +kernel))
theorem cc_L_13 : Cond.classLink RL 13 "java/lang/IllegalArgumentException" ∈ lw_tbl := (jv_at 939 (by decide +kernel))
theorem mv_X12_spaces : jv_mv M_X12_spaces := ⟨(jv_at 941 (by decide +kernel)), (jv_at 942 (by decide +kernel))⟩
def f_L_spaces (a0 : Nat) (a1 : Int32) (a2 : Nat) (h : jh) : Option (Int32 × jh) :=
  cVC h a0 10 (f_X12_spaces a0 a1 h) (fun v1 h2 =>
  sL h2 a2 0 v1.toInt64 fun h3 =>
  some (0, h3)) (fun E h1 => if E = "java/lang/IllegalArgumentException" then
  some (1, h1)
  else none)
theorem P_L_spaces (X : jx) (a0 : Nat) (a1 : Int32) (a2 : Nat) (h : jh) : jv_PH X M_L_spaces jeI [.ref (a0), .int (a1), .ref (a2)] h (f_L_spaces a0 a1 a2 h) := by
  refine jv_PH.of (by decide) (by simp [Value.category]) (Nat.le_of_ble_eq_true rfl) ?_
  show jv_O X M_L_spaces (h.1, h.2.1) jeI 0 [some (.ref (a0)), some (.int (a1)), some (.ref (a2)), none] [] h (f_L_spaces a0 a1 a2 h)
  unfold f_L_spaces
  refine jv_aload_n (jv_dk t_L_spaces (k := 0) rfl) rfl rfl (Or.inr ⟨_, rfl⟩) ?_
  refine jv_iconst (v := 0) (jv_dk t_L_spaces (k := 1) rfl) (by decide) ?_
  refine jv_aload_n (jv_dk t_L_spaces (k := 2) rfl) rfl rfl (Or.inr ⟨_, rfl⟩) ?_
  refine jv_iload_n (jv_dk t_L_spaces (k := 3) rfl) rfl rfl ?_
  refine jv_callVC (en' := jeIX) (pv := jpI) (As := [.int (a1)]) (S := [.int (0), .ref (a2)]) (jv_dk t_L_spaces (k := 4) rfl) (fun _ => rfl) (fun _ => rfl) lk_L_7 me_X12_spaces mv_X12_spaces ⟨by decide, by decide⟩ rfl rfl rfl (Nat.le_of_ble_eq_true rfl) (P_X12_spaces X a0 a1 h) (fun v1 h2 => ?_) (fun E h1 => ?_)
  · show jv_O X M_L_spaces _ jeI 7 [some (.ref (a0)), some (.int (a1)), some (.ref (a2)), none] [.int (v1), .int (0), .ref (a2)] h2 _
    refine jv_i2l (jv_dk t_L_spaces (k := 5) rfl) ?_
    refine jv_lastore (jv_dk t_L_spaces (k := 6) rfl) (fun h3 => ?_)
    refine jv_goto (tgt := 15) (jv_dk t_L_spaces (k := 7) rfl) rfl ?_
    refine jv_iconst (v := 0) (jv_dk t_L_spaces (k := 11) rfl) (by decide) ?_
    exact jv_iret (ty := .int) (jv_dk t_L_spaces (k := 12) rfl) rfl rfl rfl
  · by_cases e0 : E = "java/lang/IllegalArgumentException"
    · subst e0
      rw [if_pos rfl]
      exact Or.inr ⟨"java/lang/IllegalArgumentException", [], [], ⟨0, 9, 12, 13⟩, rfl, by decide, by decide, cc_L_13, ca_IllegalArgumentException, (fun z hz => nomatch hz), fun q9 => by
        refine jv_astore_n (L' := [some (.ref (a0)), some (.int (a1)), some (.ref (a2)), some (.ref (q9))]) (jv_dk t_L_spaces (k := 8) rfl) rfl (Nat.le_of_ble_eq_true rfl) (Or.inr ⟨_, rfl⟩) rfl ?_
        refine jv_iconst (v := 1) (jv_dk t_L_spaces (k := 9) rfl) (by decide) ?_
        exact jv_iret (ty := .int) (jv_dk t_L_spaces (k := 10) rfl) rfl rfl rfl
      ⟩
    left
    rw [if_neg e0]
def t0_L_count : List (Nat × Instr × Nat) := [(0, .aload_n 2, 1), (1, .iconst 0, 1), (2, .aload_n 0, 1), (3, .iload_n 1, 1), (4, .invokevirtual 15, 3), (7, .i2l, 1), (8, .lastore, 1), (9, .goto 6, 3), (12, .astore_n 3, 1), (13, .iconst 1, 1), (14, .ireturn, 1), (15, .iconst 0, 1), (16, .ireturn, 1)]
theorem t_L_count : jv_dec cL_count t0_L_count = true := by decide +kernel
def M_L_count : jm := (yL_count, cL_count, 4, (some .int), 7, 122, [(0, 9, 12, 18)])
theorem lk_L_15 : Cond.methodLink RL 15 M_X12_count.1 ∈ lw_tbl := (jv_at 1102 (by decide +kernel))
set_option maxRecDepth 20000 in
theorem me_X12_count : jv_me M_X12_count 1 := ⟨(jv_in4 (List.mem_of_getElem? (i := 225) rfl)), (jv_at 161 (by decide +kernel)), ⟨by decide, by decide⟩, by decide +kernel⟩
theorem ca_NoSuchElementException : Cond.castable "java/util/NoSuchElementException" "java/util/NoSuchElementException" ∈ lw_tbl := (jv_at 1119 (by decide +kernel))
theorem cc_L_18 : Cond.classLink RL 18 "java/util/NoSuchElementException" ∈ lw_tbl := (jv_at 1101 (by decide +kernel))
theorem mv_X12_count : jv_mv M_X12_count := ⟨(jv_at 1103 (by decide +kernel)), (jv_at 1104 (by decide +kernel))⟩
def f_L_count (a0 : Nat) (a1 : Int32) (a2 : Nat) (h : jh) : Option (Int32 × jh) :=
  cVC h a0 10 (f_X12_count a0 a1 h) (fun v1 h2 =>
  sL h2 a2 0 v1.toInt64 fun h3 =>
  some (0, h3)) (fun E h1 => if E = "java/util/NoSuchElementException" then
  some (1, h1)
  else none)
theorem P_L_count (X : jx) (a0 : Nat) (a1 : Int32) (a2 : Nat) (h : jh) : jv_PH X M_L_count jeI [.ref (a0), .int (a1), .ref (a2)] h (f_L_count a0 a1 a2 h) := by
  refine jv_PH.of (by decide) (by simp [Value.category]) (Nat.le_of_ble_eq_true rfl) ?_
  show jv_O X M_L_count (h.1, h.2.1) jeI 0 [some (.ref (a0)), some (.int (a1)), some (.ref (a2)), none] [] h (f_L_count a0 a1 a2 h)
  unfold f_L_count
  refine jv_aload_n (jv_dk t_L_count (k := 0) rfl) rfl rfl (Or.inr ⟨_, rfl⟩) ?_
  refine jv_iconst (v := 0) (jv_dk t_L_count (k := 1) rfl) (by decide) ?_
  refine jv_aload_n (jv_dk t_L_count (k := 2) rfl) rfl rfl (Or.inr ⟨_, rfl⟩) ?_
  refine jv_iload_n (jv_dk t_L_count (k := 3) rfl) rfl rfl ?_
  refine jv_callVC (en' := jeIX) (pv := jpI) (As := [.int (a1)]) (S := [.int (0), .ref (a2)]) (jv_dk t_L_count (k := 4) rfl) (fun _ => rfl) (fun _ => rfl) lk_L_15 me_X12_count mv_X12_count ⟨by decide, by decide⟩ rfl rfl rfl (Nat.le_of_ble_eq_true rfl) (P_X12_count X a0 a1 h) (fun v1 h2 => ?_) (fun E h1 => ?_)
  · show jv_O X M_L_count _ jeI 7 [some (.ref (a0)), some (.int (a1)), some (.ref (a2)), none] [.int (v1), .int (0), .ref (a2)] h2 _
    refine jv_i2l (jv_dk t_L_count (k := 5) rfl) ?_
    refine jv_lastore (jv_dk t_L_count (k := 6) rfl) (fun h3 => ?_)
    refine jv_goto (tgt := 15) (jv_dk t_L_count (k := 7) rfl) rfl ?_
    refine jv_iconst (v := 0) (jv_dk t_L_count (k := 11) rfl) (by decide) ?_
    exact jv_iret (ty := .int) (jv_dk t_L_count (k := 12) rfl) rfl rfl rfl
  · by_cases e0 : E = "java/util/NoSuchElementException"
    · subst e0
      rw [if_pos rfl]
      exact Or.inr ⟨"java/util/NoSuchElementException", [], [], ⟨0, 9, 12, 18⟩, rfl, by decide, by decide, cc_L_18, ca_NoSuchElementException, (fun z hz => nomatch hz), fun q9 => by
        refine jv_astore_n (L' := [some (.ref (a0)), some (.int (a1)), some (.ref (a2)), some (.ref (q9))]) (jv_dk t_L_count (k := 8) rfl) rfl (Nat.le_of_ble_eq_true rfl) (Or.inr ⟨_, rfl⟩) rfl ?_
        refine jv_iconst (v := 1) (jv_dk t_L_count (k := 9) rfl) (by decide) ?_
        exact jv_iret (ty := .int) (jv_dk t_L_count (k := 10) rfl) rfl rfl rfl
      ⟩
    left
    rw [if_neg e0]
def t0_L_process : List (Nat × Instr × Nat) := [(0, .aload_n 3, 1), (1, .iconst 0, 1), (2, .aload_n 0, 1), (3, .iload_n 1, 1), (4, .iload_n 2, 1), (5, .invokevirtual 20, 3), (8, .i2l, 1), (9, .lastore, 1), (10, .goto 7, 3), (13, .astore 4, 2), (15, .iconst 1, 1), (16, .ireturn, 1), (17, .iconst 0, 1), (18, .ireturn, 1)]
theorem t_L_process : jv_dec cL_process t0_L_process = true := by decide +kernel
def M_L_process : jm := (yL_process, cL_process, 5, (some .int), 8, 145, [(0, 10, 13, 18)])
theorem lk_L_20 : Cond.methodLink RL 20 M_X12_process.1 ∈ lw_tbl := (jv_at 1135 (by decide +kernel))
set_option maxRecDepth 20000 in
theorem me_X12_process : jv_me M_X12_process 2 := ⟨(jv_in5 (List.mem_of_getElem? (i := 18) rfl)), (jv_at 161 (by decide +kernel)), ⟨by decide, by decide⟩, by decide +kernel⟩
theorem mv_X12_process : jv_mv M_X12_process := ⟨(jv_at 1136 (by decide +kernel)), (jv_at 1137 (by decide +kernel))⟩
def f_L_process (a0 : Nat) (a1 : Int32) (a2 : Int32) (a3 : Nat) (h : jh) : Option (Int32 × jh) :=
  cVC h a0 10 (f_X12_process a0 a1 a2 h) (fun v1 h2 =>
  sL h2 a3 0 v1.toInt64 fun h3 =>
  some (0, h3)) (fun E h1 => if E = "java/util/NoSuchElementException" then
  some (1, h1)
  else none)
theorem P_L_process (X : jx) (a0 : Nat) (a1 : Int32) (a2 : Int32) (a3 : Nat) (h : jh) : jv_PH X M_L_process jeI [.ref (a0), .int (a1), .int (a2), .ref (a3)] h (f_L_process a0 a1 a2 a3 h) := by
  refine jv_PH.of (by decide) (by simp [Value.category]) (Nat.le_of_ble_eq_true rfl) ?_
  show jv_O X M_L_process (h.1, h.2.1) jeI 0 [some (.ref (a0)), some (.int (a1)), some (.int (a2)), some (.ref (a3)), none] [] h (f_L_process a0 a1 a2 a3 h)
  unfold f_L_process
  refine jv_aload_n (jv_dk t_L_process (k := 0) rfl) rfl rfl (Or.inr ⟨_, rfl⟩) ?_
  refine jv_iconst (v := 0) (jv_dk t_L_process (k := 1) rfl) (by decide) ?_
  refine jv_aload_n (jv_dk t_L_process (k := 2) rfl) rfl rfl (Or.inr ⟨_, rfl⟩) ?_
  refine jv_iload_n (jv_dk t_L_process (k := 3) rfl) rfl rfl ?_
  refine jv_iload_n (jv_dk t_L_process (k := 4) rfl) rfl rfl ?_
  refine jv_callVC (en' := jeIX) (pv := jpI) (As := [.int (a1), .int (a2)]) (S := [.int (0), .ref (a3)]) (jv_dk t_L_process (k := 5) rfl) (fun _ => rfl) (fun _ => rfl) lk_L_20 me_X12_process mv_X12_process ⟨by decide, by decide⟩ rfl rfl rfl (Nat.le_of_ble_eq_true rfl) (P_X12_process X a0 a1 a2 h) (fun v1 h2 => ?_) (fun E h1 => ?_)
  · show jv_O X M_L_process _ jeI 8 [some (.ref (a0)), some (.int (a1)), some (.int (a2)), some (.ref (a3)), none] [.int (v1), .int (0), .ref (a3)] h2 _
    refine jv_i2l (jv_dk t_L_process (k := 6) rfl) ?_
    refine jv_lastore (jv_dk t_L_process (k := 7) rfl) (fun h3 => ?_)
    refine jv_goto (tgt := 17) (jv_dk t_L_process (k := 8) rfl) rfl ?_
    refine jv_iconst (v := 0) (jv_dk t_L_process (k := 12) rfl) (by decide) ?_
    exact jv_iret (ty := .int) (jv_dk t_L_process (k := 13) rfl) rfl rfl rfl
  · by_cases e0 : E = "java/util/NoSuchElementException"
    · subst e0
      rw [if_pos rfl]
      exact Or.inr ⟨"java/util/NoSuchElementException", [], [], ⟨0, 10, 13, 18⟩, rfl, by decide, by decide, cc_L_18, ca_NoSuchElementException, (fun z hz => nomatch hz), fun q9 => by
        refine jv_astore (L' := [some (.ref (a0)), some (.int (a1)), some (.int (a2)), some (.ref (a3)), some (.ref (q9))]) (jv_dk t_L_process (k := 9) rfl) (Nat.le_of_ble_eq_true rfl) (Or.inr ⟨_, rfl⟩) rfl ?_
        refine jv_iconst (v := 1) (jv_dk t_L_process (k := 10) rfl) (by decide) ?_
        exact jv_iret (ty := .int) (jv_dk t_L_process (k := 11) rfl) rfl rfl rfl
      ⟩
    left
    rw [if_neg e0]
def t0_L_space : List (Nat × Instr × Nat) := [(0, .aload 4, 2), (2, .iconst 0, 1), (3, .aload_n 0, 1), (4, .iload_n 1, 1), (5, .iload_n 2, 1), (6, .iload_n 3, 1), (7, .invokevirtual 24, 3), (10, .i2l, 1), (11, .lastore, 1), (12, .goto 7, 3), (15, .astore 5, 2), (17, .iconst 1, 1), (18, .ireturn, 1), (19, .iconst 0, 1), (20, .ireturn, 1)]
theorem t_L_space : jv_dec cL_space t0_L_space = true := by decide +kernel
def M_L_space : jm := (yL_space, cL_space, 6, (some .int), 7, 124, [(0, 12, 15, 18)])
theorem lk_L_24 : Cond.methodLink RL 24 M_X12_space.1 ∈ lw_tbl := (jv_at 1152 (by decide +kernel))
set_option maxRecDepth 20000 in
theorem me_X12_space : jv_me M_X12_space 3 := ⟨(jv_in5 (List.mem_of_getElem? (i := 35) rfl)), (jv_at 161 (by decide +kernel)), ⟨by decide, by decide⟩, by decide +kernel⟩
theorem mv_X12_space : jv_mv M_X12_space := ⟨(jv_at 1153 (by decide +kernel)), (jv_at 1154 (by decide +kernel))⟩
def f_L_space (a0 : Nat) (a1 : Int32) (a2 : Int32) (a3 : Int32) (a4 : Nat) (h : jh) : Option (Int32 × jh) :=
  cVC h a0 10 (f_X12_space a0 a1 a2 a3 h) (fun v1 h2 =>
  sL h2 a4 0 v1.toInt64 fun h3 =>
  some (0, h3)) (fun E h1 => if E = "java/util/NoSuchElementException" then
  some (1, h1)
  else none)
theorem P_L_space (X : jx) (a0 : Nat) (a1 : Int32) (a2 : Int32) (a3 : Int32) (a4 : Nat) (h : jh) : jv_PH X M_L_space jeI [.ref (a0), .int (a1), .int (a2), .int (a3), .ref (a4)] h (f_L_space a0 a1 a2 a3 a4 h) := by
  refine jv_PH.of (by decide) (by simp [Value.category]) (Nat.le_of_ble_eq_true rfl) ?_
  show jv_O X M_L_space (h.1, h.2.1) jeI 0 [some (.ref (a0)), some (.int (a1)), some (.int (a2)), some (.int (a3)), some (.ref (a4)), none] [] h (f_L_space a0 a1 a2 a3 a4 h)
  unfold f_L_space
  refine jv_aload (jv_dk t_L_space (k := 0) rfl) rfl (Or.inr ⟨_, rfl⟩) ?_
  refine jv_iconst (v := 0) (jv_dk t_L_space (k := 1) rfl) (by decide) ?_
  refine jv_aload_n (jv_dk t_L_space (k := 2) rfl) rfl rfl (Or.inr ⟨_, rfl⟩) ?_
  refine jv_iload_n (jv_dk t_L_space (k := 3) rfl) rfl rfl ?_
  refine jv_iload_n (jv_dk t_L_space (k := 4) rfl) rfl rfl ?_
  refine jv_iload_n (jv_dk t_L_space (k := 5) rfl) rfl rfl ?_
  refine jv_callVC (en' := jeIX) (pv := jpI) (As := [.int (a1), .int (a2), .int (a3)]) (S := [.int (0), .ref (a4)]) (jv_dk t_L_space (k := 6) rfl) (fun _ => rfl) (fun _ => rfl) lk_L_24 me_X12_space mv_X12_space ⟨by decide, by decide⟩ rfl rfl rfl (Nat.le_of_ble_eq_true rfl) (P_X12_space X a0 a1 a2 a3 h) (fun v1 h2 => ?_) (fun E h1 => ?_)
  · show jv_O X M_L_space _ jeI 10 [some (.ref (a0)), some (.int (a1)), some (.int (a2)), some (.int (a3)), some (.ref (a4)), none] [.int (v1), .int (0), .ref (a4)] h2 _
    refine jv_i2l (jv_dk t_L_space (k := 7) rfl) ?_
    refine jv_lastore (jv_dk t_L_space (k := 8) rfl) (fun h3 => ?_)
    refine jv_goto (tgt := 19) (jv_dk t_L_space (k := 9) rfl) rfl ?_
    refine jv_iconst (v := 0) (jv_dk t_L_space (k := 13) rfl) (by decide) ?_
    exact jv_iret (ty := .int) (jv_dk t_L_space (k := 14) rfl) rfl rfl rfl
  · by_cases e0 : E = "java/util/NoSuchElementException"
    · subst e0
      rw [if_pos rfl]
      exact Or.inr ⟨"java/util/NoSuchElementException", [], [], ⟨0, 12, 15, 18⟩, rfl, by decide, by decide, cc_L_18, ca_NoSuchElementException, (fun z hz => nomatch hz), fun q9 => by
        refine jv_astore (L' := [some (.ref (a0)), some (.int (a1)), some (.int (a2)), some (.int (a3)), some (.ref (a4)), some (.ref (q9))]) (jv_dk t_L_space (k := 10) rfl) (Nat.le_of_ble_eq_true rfl) (Or.inr ⟨_, rfl⟩) rfl ?_
        refine jv_iconst (v := 1) (jv_dk t_L_space (k := 11) rfl) (by decide) ?_
        exact jv_iret (ty := .int) (jv_dk t_L_space (k := 12) rfl) rfl rfl rfl
      ⟩
    left
    rw [if_neg e0]
def t0_L_number : List (Nat × Instr × Nat) := [(0, .aload_n 3, 1), (1, .iconst 0, 1), (2, .aload_n 0, 1), (3, .iload_n 1, 1), (4, .iload_n 2, 1), (5, .invokevirtual 28, 3), (8, .i2l, 1), (9, .lastore, 1), (10, .goto 7, 3), (13, .astore 4, 2), (15, .iconst 1, 1), (16, .ireturn, 1), (17, .iconst 0, 1), (18, .ireturn, 1)]
theorem t_L_number : jv_dec cL_number t0_L_number = true := by decide +kernel
def M_L_number : jm := (yL_number, cL_number, 5, (some .int), 8, 146, [(0, 10, 13, 18)])
theorem lk_L_28 : Cond.methodLink RL 28 M_X12_number.1 ∈ lw_tbl := (jv_at 1183 (by decide +kernel))
set_option maxRecDepth 20000 in
theorem me_X12_number : jv_me M_X12_number 2 := ⟨(jv_in5 (List.mem_of_getElem? (i := 66) rfl)), (jv_at 161 (by decide +kernel)), ⟨by decide, by decide⟩, by decide +kernel⟩
theorem mv_X12_number : jv_mv M_X12_number := ⟨(jv_at 1184 (by decide +kernel)), (jv_at 1185 (by decide +kernel))⟩
def f_L_number (a0 : Nat) (a1 : Int32) (a2 : Int32) (a3 : Nat) (h : jh) : Option (Int32 × jh) :=
  cVC h a0 10 (f_X12_number a0 a1 a2 h) (fun v1 h2 =>
  sL h2 a3 0 v1.toInt64 fun h3 =>
  some (0, h3)) (fun E h1 => if E = "java/util/NoSuchElementException" then
  some (1, h1)
  else none)
theorem P_L_number (X : jx) (a0 : Nat) (a1 : Int32) (a2 : Int32) (a3 : Nat) (h : jh) : jv_PH X M_L_number jeI [.ref (a0), .int (a1), .int (a2), .ref (a3)] h (f_L_number a0 a1 a2 a3 h) := by
  refine jv_PH.of (by decide) (by simp [Value.category]) (Nat.le_of_ble_eq_true rfl) ?_
  show jv_O X M_L_number (h.1, h.2.1) jeI 0 [some (.ref (a0)), some (.int (a1)), some (.int (a2)), some (.ref (a3)), none] [] h (f_L_number a0 a1 a2 a3 h)
  unfold f_L_number
  refine jv_aload_n (jv_dk t_L_number (k := 0) rfl) rfl rfl (Or.inr ⟨_, rfl⟩) ?_
  refine jv_iconst (v := 0) (jv_dk t_L_number (k := 1) rfl) (by decide) ?_
  refine jv_aload_n (jv_dk t_L_number (k := 2) rfl) rfl rfl (Or.inr ⟨_, rfl⟩) ?_
  refine jv_iload_n (jv_dk t_L_number (k := 3) rfl) rfl rfl ?_
  refine jv_iload_n (jv_dk t_L_number (k := 4) rfl) rfl rfl ?_
  refine jv_callVC (en' := jeIX) (pv := jpI) (As := [.int (a1), .int (a2)]) (S := [.int (0), .ref (a3)]) (jv_dk t_L_number (k := 5) rfl) (fun _ => rfl) (fun _ => rfl) lk_L_28 me_X12_number mv_X12_number ⟨by decide, by decide⟩ rfl rfl rfl (Nat.le_of_ble_eq_true rfl) (P_X12_number X a0 a1 a2 h) (fun v1 h2 => ?_) (fun E h1 => ?_)
  · show jv_O X M_L_number _ jeI 8 [some (.ref (a0)), some (.int (a1)), some (.int (a2)), some (.ref (a3)), none] [.int (v1), .int (0), .ref (a3)] h2 _
    refine jv_i2l (jv_dk t_L_number (k := 6) rfl) ?_
    refine jv_lastore (jv_dk t_L_number (k := 7) rfl) (fun h3 => ?_)
    refine jv_goto (tgt := 17) (jv_dk t_L_number (k := 8) rfl) rfl ?_
    refine jv_iconst (v := 0) (jv_dk t_L_number (k := 12) rfl) (by decide) ?_
    exact jv_iret (ty := .int) (jv_dk t_L_number (k := 13) rfl) rfl rfl rfl
  · by_cases e0 : E = "java/util/NoSuchElementException"
    · subst e0
      rw [if_pos rfl]
      exact Or.inr ⟨"java/util/NoSuchElementException", [], [], ⟨0, 10, 13, 18⟩, rfl, by decide, by decide, cc_L_18, ca_NoSuchElementException, (fun z hz => nomatch hz), fun q9 => by
        refine jv_astore (L' := [some (.ref (a0)), some (.int (a1)), some (.int (a2)), some (.ref (a3)), some (.ref (q9))]) (jv_dk t_L_number (k := 9) rfl) (Nat.le_of_ble_eq_true rfl) (Or.inr ⟨_, rfl⟩) rfl ?_
        refine jv_iconst (v := 1) (jv_dk t_L_number (k := 10) rfl) (by decide) ?_
        exact jv_iret (ty := .int) (jv_dk t_L_number (k := 11) rfl) rfl rfl rfl
      ⟩
    left
    rw [if_neg e0]
def t0_L_listed : List (Nat × Instr × Nat) := [(0, .aload_n 3, 1), (1, .iconst 0, 1), (2, .aload_n 0, 1), (3, .iload_n 1, 1), (4, .iload_n 2, 1), (5, .invokevirtual 31, 3), (8, .i2l, 1), (9, .lastore, 1), (10, .goto 7, 3), (13, .astore 4, 2), (15, .iconst 1, 1), (16, .ireturn, 1), (17, .iconst 0, 1), (18, .ireturn, 1)]
theorem t_L_listed : jv_dec cL_listed t0_L_listed = true := by decide +kernel
def M_L_listed : jm := (yL_listed, cL_listed, 5, (some .int), 8, 148, [(0, 10, 13, 18)])
theorem lk_L_31 : Cond.methodLink RL 31 M_X12_listed.1 ∈ lw_tbl := (jv_at 1194 (by decide +kernel))
set_option maxRecDepth 20000 in
theorem me_X12_listed : jv_me M_X12_listed 2 := ⟨(jv_in5 (List.mem_of_getElem? (i := 77) rfl)), (jv_at 161 (by decide +kernel)), ⟨by decide, by decide⟩, by decide +kernel⟩
theorem mv_X12_listed : jv_mv M_X12_listed := ⟨(jv_at 1195 (by decide +kernel)), (jv_at 1196 (by decide +kernel))⟩
def f_L_listed (a0 : Nat) (a1 : Int32) (a2 : Int32) (a3 : Nat) (h : jh) : Option (Int32 × jh) :=
  cVC h a0 10 (f_X12_listed a0 a1 a2 h) (fun v1 h2 =>
  sL h2 a3 0 v1.toInt64 fun h3 =>
  some (0, h3)) (fun E h1 => if E = "java/util/NoSuchElementException" then
  some (1, h1)
  else none)
theorem P_L_listed (X : jx) (a0 : Nat) (a1 : Int32) (a2 : Int32) (a3 : Nat) (h : jh) : jv_PH X M_L_listed jeI [.ref (a0), .int (a1), .int (a2), .ref (a3)] h (f_L_listed a0 a1 a2 a3 h) := by
  refine jv_PH.of (by decide) (by simp [Value.category]) (Nat.le_of_ble_eq_true rfl) ?_
  show jv_O X M_L_listed (h.1, h.2.1) jeI 0 [some (.ref (a0)), some (.int (a1)), some (.int (a2)), some (.ref (a3)), none] [] h (f_L_listed a0 a1 a2 a3 h)
  unfold f_L_listed
  refine jv_aload_n (jv_dk t_L_listed (k := 0) rfl) rfl rfl (Or.inr ⟨_, rfl⟩) ?_
  refine jv_iconst (v := 0) (jv_dk t_L_listed (k := 1) rfl) (by decide) ?_
  refine jv_aload_n (jv_dk t_L_listed (k := 2) rfl) rfl rfl (Or.inr ⟨_, rfl⟩) ?_
  refine jv_iload_n (jv_dk t_L_listed (k := 3) rfl) rfl rfl ?_
  refine jv_iload_n (jv_dk t_L_listed (k := 4) rfl) rfl rfl ?_
  refine jv_callVC (en' := jeIX) (pv := jpI) (As := [.int (a1), .int (a2)]) (S := [.int (0), .ref (a3)]) (jv_dk t_L_listed (k := 5) rfl) (fun _ => rfl) (fun _ => rfl) lk_L_31 me_X12_listed mv_X12_listed ⟨by decide, by decide⟩ rfl rfl rfl (Nat.le_of_ble_eq_true rfl) (P_X12_listed X a0 a1 a2 h) (fun v1 h2 => ?_) (fun E h1 => ?_)
  · show jv_O X M_L_listed _ jeI 8 [some (.ref (a0)), some (.int (a1)), some (.int (a2)), some (.ref (a3)), none] [.int (v1), .int (0), .ref (a3)] h2 _
    refine jv_i2l (jv_dk t_L_listed (k := 6) rfl) ?_
    refine jv_lastore (jv_dk t_L_listed (k := 7) rfl) (fun h3 => ?_)
    refine jv_goto (tgt := 17) (jv_dk t_L_listed (k := 8) rfl) rfl ?_
    refine jv_iconst (v := 0) (jv_dk t_L_listed (k := 12) rfl) (by decide) ?_
    exact jv_iret (ty := .int) (jv_dk t_L_listed (k := 13) rfl) rfl rfl rfl
  · by_cases e0 : E = "java/util/NoSuchElementException"
    · subst e0
      rw [if_pos rfl]
      exact Or.inr ⟨"java/util/NoSuchElementException", [], [], ⟨0, 10, 13, 18⟩, rfl, by decide, by decide, cc_L_18, ca_NoSuchElementException, (fun z hz => nomatch hz), fun q9 => by
        refine jv_astore (L' := [some (.ref (a0)), some (.int (a1)), some (.int (a2)), some (.ref (a3)), some (.ref (q9))]) (jv_dk t_L_listed (k := 9) rfl) (Nat.le_of_ble_eq_true rfl) (Or.inr ⟨_, rfl⟩) rfl ?_
        refine jv_iconst (v := 1) (jv_dk t_L_listed (k := 10) rfl) (by decide) ?_
        exact jv_iret (ty := .int) (jv_dk t_L_listed (k := 11) rfl) rfl rfl rfl
      ⟩
    left
    rw [if_neg e0]
def t0_L_inside : List (Nat × Instr × Nat) := [(0, .aload_n 3, 1), (1, .iconst 0, 1), (2, .aload_n 0, 1), (3, .iload_n 1, 1), (4, .iload_n 2, 1), (5, .invokevirtual 34, 3), (8, .i2l, 1), (9, .lastore, 1), (10, .goto 11, 3), (13, .astore 4, 2), (15, .iconst 1, 1), (16, .ireturn, 1), (17, .astore 4, 2), (19, .iconst 2, 1), (20, .ireturn, 1), (21, .iconst 0, 1), (22, .ireturn, 1)]
theorem t_L_inside : jv_dec cL_inside t0_L_inside = true := by decide +kernel
def M_L_inside : jm := (yL_inside, cL_inside, 5, (some .int), 8, 145, [(0, 10, 13, 18), (0, 10, 17, 13)])
theorem lk_L_34 : Cond.methodLink RL 34 M_X12_inside.1 ∈ lw_tbl := (jv_at 1202 (by decide +kernel))
set_option maxRecDepth 20000 in
theorem me_X12_inside : jv_me M_X12_inside 2 := ⟨(jv_in5 (List.mem_of_getElem? (i := 85) rfl)), (jv_at 161 (by decide +kernel)), ⟨by decide, by decide⟩, by decide +kernel⟩
theorem mv_X12_inside : jv_mv M_X12_inside := ⟨(jv_at 1203 (by decide +kernel)), (jv_at 1204 (by decide +kernel))⟩
def f_L_inside (a0 : Nat) (a1 : Int32) (a2 : Int32) (a3 : Nat) (h : jh) : Option (Int32 × jh) :=
  cVC h a0 10 (f_X12_inside a0 a1 a2 h) (fun v1 h2 =>
  sL h2 a3 0 v1.toInt64 fun h3 =>
  some (0, h3)) (fun E h1 => if E = "java/util/NoSuchElementException" then
  some (1, h1)
  else if E = "java/lang/IllegalArgumentException" then
  some (2, h1)
  else none)
theorem P_L_inside (X : jx) (a0 : Nat) (a1 : Int32) (a2 : Int32) (a3 : Nat) (h : jh) : jv_PH X M_L_inside jeI [.ref (a0), .int (a1), .int (a2), .ref (a3)] h (f_L_inside a0 a1 a2 a3 h) := by
  refine jv_PH.of (by decide) (by simp [Value.category]) (Nat.le_of_ble_eq_true rfl) ?_
  show jv_O X M_L_inside (h.1, h.2.1) jeI 0 [some (.ref (a0)), some (.int (a1)), some (.int (a2)), some (.ref (a3)), none] [] h (f_L_inside a0 a1 a2 a3 h)
  unfold f_L_inside
  refine jv_aload_n (jv_dk t_L_inside (k := 0) rfl) rfl rfl (Or.inr ⟨_, rfl⟩) ?_
  refine jv_iconst (v := 0) (jv_dk t_L_inside (k := 1) rfl) (by decide) ?_
  refine jv_aload_n (jv_dk t_L_inside (k := 2) rfl) rfl rfl (Or.inr ⟨_, rfl⟩) ?_
  refine jv_iload_n (jv_dk t_L_inside (k := 3) rfl) rfl rfl ?_
  refine jv_iload_n (jv_dk t_L_inside (k := 4) rfl) rfl rfl ?_
  refine jv_callVC (en' := jeIX) (pv := jpI) (As := [.int (a1), .int (a2)]) (S := [.int (0), .ref (a3)]) (jv_dk t_L_inside (k := 5) rfl) (fun _ => rfl) (fun _ => rfl) lk_L_34 me_X12_inside mv_X12_inside ⟨by decide, by decide⟩ rfl rfl rfl (Nat.le_of_ble_eq_true rfl) (P_X12_inside X a0 a1 a2 h) (fun v1 h2 => ?_) (fun E h1 => ?_)
  · show jv_O X M_L_inside _ jeI 8 [some (.ref (a0)), some (.int (a1)), some (.int (a2)), some (.ref (a3)), none] [.int (v1), .int (0), .ref (a3)] h2 _
    refine jv_i2l (jv_dk t_L_inside (k := 6) rfl) ?_
    refine jv_lastore (jv_dk t_L_inside (k := 7) rfl) (fun h3 => ?_)
    refine jv_goto (tgt := 21) (jv_dk t_L_inside (k := 8) rfl) rfl ?_
    refine jv_iconst (v := 0) (jv_dk t_L_inside (k := 15) rfl) (by decide) ?_
    exact jv_iret (ty := .int) (jv_dk t_L_inside (k := 16) rfl) rfl rfl rfl
  · by_cases e0 : E = "java/util/NoSuchElementException"
    · subst e0
      rw [if_pos rfl]
      exact Or.inr ⟨"java/util/NoSuchElementException", [], [⟨0, 10, 17, 13⟩], ⟨0, 10, 13, 18⟩, rfl, by decide, by decide, cc_L_18, ca_NoSuchElementException, (fun z hz => nomatch hz), fun q9 => by
        refine jv_astore (L' := [some (.ref (a0)), some (.int (a1)), some (.int (a2)), some (.ref (a3)), some (.ref (q9))]) (jv_dk t_L_inside (k := 9) rfl) (Nat.le_of_ble_eq_true rfl) (Or.inr ⟨_, rfl⟩) rfl ?_
        refine jv_iconst (v := 1) (jv_dk t_L_inside (k := 10) rfl) (by decide) ?_
        exact jv_iret (ty := .int) (jv_dk t_L_inside (k := 11) rfl) rfl rfl rfl
      ⟩
    by_cases e1 : E = "java/lang/IllegalArgumentException"
    · subst e1
      rw [if_neg (by decide)]
      rw [if_pos rfl]
      exact Or.inr ⟨"java/lang/IllegalArgumentException", [⟨0, 10, 13, 18⟩], [], ⟨0, 10, 17, 13⟩, rfl, by decide, by decide, cc_L_13, ca_IllegalArgumentException, (fun z hz => by rw [List.mem_singleton.mp hz]; exact Or.inr ⟨by decide, "java/util/NoSuchElementException", cc_L_18, fun U hK => hK.2.2.2.2.2.2.2.2.2.2.2⟩), fun q9 => by
        refine jv_astore (L' := [some (.ref (a0)), some (.int (a1)), some (.int (a2)), some (.ref (a3)), some (.ref (q9))]) (jv_dk t_L_inside (k := 12) rfl) (Nat.le_of_ble_eq_true rfl) (Or.inr ⟨_, rfl⟩) rfl ?_
        refine jv_iconst (v := 2) (jv_dk t_L_inside (k := 13) rfl) (by decide) ?_
        exact jv_iret (ty := .int) (jv_dk t_L_inside (k := 14) rfl) rfl rfl rfl
      ⟩
    left
    rw [if_neg e0, if_neg e1]
def t0_L_outside : List (Nat × Instr × Nat) := [(0, .aload_n 3, 1), (1, .iconst 0, 1), (2, .aload_n 0, 1), (3, .iload_n 1, 1), (4, .iload_n 2, 1), (5, .invokevirtual 37, 3), (8, .i2l, 1), (9, .lastore, 1), (10, .goto 11, 3), (13, .astore 4, 2), (15, .iconst 1, 1), (16, .ireturn, 1), (17, .astore 4, 2), (19, .iconst 2, 1), (20, .ireturn, 1), (21, .iconst 0, 1), (22, .ireturn, 1)]
theorem t_L_outside : jv_dec cL_outside t0_L_outside = true := by decide +kernel
def M_L_outside : jm := (yL_outside, cL_outside, 5, (some .int), 8, 145, [(0, 10, 13, 18), (0, 10, 17, 13)])
theorem lk_L_37 : Cond.methodLink RL 37 M_X12_outside.1 ∈ lw_tbl := (jv_at 1213 (by decide +kernel))
set_option maxRecDepth 20000 in
theorem me_X12_outside : jv_me M_X12_outside 2 := ⟨(jv_in5 (List.mem_of_getElem? (i := 96) rfl)), (jv_at 161 (by decide +kernel)), ⟨by decide, by decide⟩, by decide +kernel⟩
theorem mv_X12_outside : jv_mv M_X12_outside := ⟨(jv_at 1214 (by decide +kernel)), (jv_at 1215 (by decide +kernel))⟩
def f_L_outside (a0 : Nat) (a1 : Int32) (a2 : Int32) (a3 : Nat) (h : jh) : Option (Int32 × jh) :=
  cVC h a0 10 (f_X12_outside a0 a1 a2 h) (fun v1 h2 =>
  sL h2 a3 0 v1.toInt64 fun h3 =>
  some (0, h3)) (fun E h1 => if E = "java/util/NoSuchElementException" then
  some (1, h1)
  else if E = "java/lang/IllegalArgumentException" then
  some (2, h1)
  else none)
theorem P_L_outside (X : jx) (a0 : Nat) (a1 : Int32) (a2 : Int32) (a3 : Nat) (h : jh) : jv_PH X M_L_outside jeI [.ref (a0), .int (a1), .int (a2), .ref (a3)] h (f_L_outside a0 a1 a2 a3 h) := by
  refine jv_PH.of (by decide) (by simp [Value.category]) (Nat.le_of_ble_eq_true rfl) ?_
  show jv_O X M_L_outside (h.1, h.2.1) jeI 0 [some (.ref (a0)), some (.int (a1)), some (.int (a2)), some (.ref (a3)), none] [] h (f_L_outside a0 a1 a2 a3 h)
  unfold f_L_outside
  refine jv_aload_n (jv_dk t_L_outside (k := 0) rfl) rfl rfl (Or.inr ⟨_, rfl⟩) ?_
  refine jv_iconst (v := 0) (jv_dk t_L_outside (k := 1) rfl) (by decide) ?_
  refine jv_aload_n (jv_dk t_L_outside (k := 2) rfl) rfl rfl (Or.inr ⟨_, rfl⟩) ?_
  refine jv_iload_n (jv_dk t_L_outside (k := 3) rfl) rfl rfl ?_
  refine jv_iload_n (jv_dk t_L_outside (k := 4) rfl) rfl rfl ?_
  refine jv_callVC (en' := jeIX) (pv := jpI) (As := [.int (a1), .int (a2)]) (S := [.int (0), .ref (a3)]) (jv_dk t_L_outside (k := 5) rfl) (fun _ => rfl) (fun _ => rfl) lk_L_37 me_X12_outside mv_X12_outside ⟨by decide, by decide⟩ rfl rfl rfl (Nat.le_of_ble_eq_true rfl) (P_X12_outside X a0 a1 a2 h) (fun v1 h2 => ?_) (fun E h1 => ?_)
  · show jv_O X M_L_outside _ jeI 8 [some (.ref (a0)), some (.int (a1)), some (.int (a2)), some (.ref (a3)), none] [.int (v1), .int (0), .ref (a3)] h2 _
    refine jv_i2l (jv_dk t_L_outside (k := 6) rfl) ?_
    refine jv_lastore (jv_dk t_L_outside (k := 7) rfl) (fun h3 => ?_)
    refine jv_goto (tgt := 21) (jv_dk t_L_outside (k := 8) rfl) rfl ?_
    refine jv_iconst (v := 0) (jv_dk t_L_outside (k := 15) rfl) (by decide) ?_
    exact jv_iret (ty := .int) (jv_dk t_L_outside (k := 16) rfl) rfl rfl rfl
  · by_cases e0 : E = "java/util/NoSuchElementException"
    · subst e0
      rw [if_pos rfl]
      exact Or.inr ⟨"java/util/NoSuchElementException", [], [⟨0, 10, 17, 13⟩], ⟨0, 10, 13, 18⟩, rfl, by decide, by decide, cc_L_18, ca_NoSuchElementException, (fun z hz => nomatch hz), fun q9 => by
        refine jv_astore (L' := [some (.ref (a0)), some (.int (a1)), some (.int (a2)), some (.ref (a3)), some (.ref (q9))]) (jv_dk t_L_outside (k := 9) rfl) (Nat.le_of_ble_eq_true rfl) (Or.inr ⟨_, rfl⟩) rfl ?_
        refine jv_iconst (v := 1) (jv_dk t_L_outside (k := 10) rfl) (by decide) ?_
        exact jv_iret (ty := .int) (jv_dk t_L_outside (k := 11) rfl) rfl rfl rfl
      ⟩
    by_cases e1 : E = "java/lang/IllegalArgumentException"
    · subst e1
      rw [if_neg (by decide)]
      rw [if_pos rfl]
      exact Or.inr ⟨"java/lang/IllegalArgumentException", [⟨0, 10, 13, 18⟩], [], ⟨0, 10, 17, 13⟩, rfl, by decide, by decide, cc_L_13, ca_IllegalArgumentException, (fun z hz => by rw [List.mem_singleton.mp hz]; exact Or.inr ⟨by decide, "java/util/NoSuchElementException", cc_L_18, fun U hK => hK.2.2.2.2.2.2.2.2.2.2.2⟩), fun q9 => by
        refine jv_astore (L' := [some (.ref (a0)), some (.int (a1)), some (.int (a2)), some (.ref (a3)), some (.ref (q9))]) (jv_dk t_L_outside (k := 12) rfl) (Nat.le_of_ble_eq_true rfl) (Or.inr ⟨_, rfl⟩) rfl ?_
        refine jv_iconst (v := 2) (jv_dk t_L_outside (k := 13) rfl) (by decide) ?_
        exact jv_iret (ty := .int) (jv_dk t_L_outside (k := 14) rfl) rfl rfl rfl
      ⟩
    left
    rw [if_neg e0, if_neg e1]
def t0_L_range : List (Nat × Instr × Nat) := [(0, .aload 4, 2), (2, .iconst 0, 1), (3, .aload_n 0, 1), (4, .iload_n 1, 1), (5, .iload_n 2, 1), (6, .iload_n 3, 1), (7, .invokevirtual 40, 3), (10, .i2l, 1), (11, .lastore, 1), (12, .goto 7, 3), (15, .astore 5, 2), (17, .iconst 1, 1), (18, .ireturn, 1), (19, .iconst 0, 1), (20, .ireturn, 1)]
theorem t_L_range : jv_dec cL_range t0_L_range = true := by decide +kernel
def M_L_range : jm := (yL_range, cL_range, 6, (some .int), 8, 148, [(0, 12, 15, 18)])
theorem lk_L_40 : Cond.methodLink RL 40 M_X12_range.1 ∈ lw_tbl := (jv_at 1221 (by decide +kernel))
set_option maxRecDepth 20000 in
theorem me_X12_range : jv_me M_X12_range 3 := ⟨(jv_in5 (List.mem_of_getElem? (i := 104) rfl)), (jv_at 161 (by decide +kernel)), ⟨by decide, by decide⟩, by decide +kernel⟩
theorem mv_X12_range : jv_mv M_X12_range := ⟨(jv_at 1222 (by decide +kernel)), (jv_at 1223 (by decide +kernel))⟩
def f_L_range (a0 : Nat) (a1 : Int32) (a2 : Int32) (a3 : Int32) (a4 : Nat) (h : jh) : Option (Int32 × jh) :=
  cVC h a0 10 (f_X12_range a0 a1 a2 a3 h) (fun v1 h2 =>
  sL h2 a4 0 v1.toInt64 fun h3 =>
  some (0, h3)) (fun E h1 => if E = "java/util/NoSuchElementException" then
  some (1, h1)
  else none)
theorem P_L_range (X : jx) (a0 : Nat) (a1 : Int32) (a2 : Int32) (a3 : Int32) (a4 : Nat) (h : jh) : jv_PH X M_L_range jeI [.ref (a0), .int (a1), .int (a2), .int (a3), .ref (a4)] h (f_L_range a0 a1 a2 a3 a4 h) := by
  refine jv_PH.of (by decide) (by simp [Value.category]) (Nat.le_of_ble_eq_true rfl) ?_
  show jv_O X M_L_range (h.1, h.2.1) jeI 0 [some (.ref (a0)), some (.int (a1)), some (.int (a2)), some (.int (a3)), some (.ref (a4)), none] [] h (f_L_range a0 a1 a2 a3 a4 h)
  unfold f_L_range
  refine jv_aload (jv_dk t_L_range (k := 0) rfl) rfl (Or.inr ⟨_, rfl⟩) ?_
  refine jv_iconst (v := 0) (jv_dk t_L_range (k := 1) rfl) (by decide) ?_
  refine jv_aload_n (jv_dk t_L_range (k := 2) rfl) rfl rfl (Or.inr ⟨_, rfl⟩) ?_
  refine jv_iload_n (jv_dk t_L_range (k := 3) rfl) rfl rfl ?_
  refine jv_iload_n (jv_dk t_L_range (k := 4) rfl) rfl rfl ?_
  refine jv_iload_n (jv_dk t_L_range (k := 5) rfl) rfl rfl ?_
  refine jv_callVC (en' := jeIX) (pv := jpI) (As := [.int (a1), .int (a2), .int (a3)]) (S := [.int (0), .ref (a4)]) (jv_dk t_L_range (k := 6) rfl) (fun _ => rfl) (fun _ => rfl) lk_L_40 me_X12_range mv_X12_range ⟨by decide, by decide⟩ rfl rfl rfl (Nat.le_of_ble_eq_true rfl) (P_X12_range X a0 a1 a2 a3 h) (fun v1 h2 => ?_) (fun E h1 => ?_)
  · show jv_O X M_L_range _ jeI 10 [some (.ref (a0)), some (.int (a1)), some (.int (a2)), some (.int (a3)), some (.ref (a4)), none] [.int (v1), .int (0), .ref (a4)] h2 _
    refine jv_i2l (jv_dk t_L_range (k := 7) rfl) ?_
    refine jv_lastore (jv_dk t_L_range (k := 8) rfl) (fun h3 => ?_)
    refine jv_goto (tgt := 19) (jv_dk t_L_range (k := 9) rfl) rfl ?_
    refine jv_iconst (v := 0) (jv_dk t_L_range (k := 13) rfl) (by decide) ?_
    exact jv_iret (ty := .int) (jv_dk t_L_range (k := 14) rfl) rfl rfl rfl
  · by_cases e0 : E = "java/util/NoSuchElementException"
    · subst e0
      rw [if_pos rfl]
      exact Or.inr ⟨"java/util/NoSuchElementException", [], [], ⟨0, 12, 15, 18⟩, rfl, by decide, by decide, cc_L_18, ca_NoSuchElementException, (fun z hz => nomatch hz), fun q9 => by
        refine jv_astore (L' := [some (.ref (a0)), some (.int (a1)), some (.int (a2)), some (.int (a3)), some (.ref (a4)), some (.ref (q9))]) (jv_dk t_L_range (k := 10) rfl) (Nat.le_of_ble_eq_true rfl) (Or.inr ⟨_, rfl⟩) rfl ?_
        refine jv_iconst (v := 1) (jv_dk t_L_range (k := 11) rfl) (by decide) ?_
        exact jv_iret (ty := .int) (jv_dk t_L_range (k := 12) rfl) rfl rfl rfl
      ⟩
    left
    rw [if_neg e0]
def t0_L_mounted : List (Nat × Instr × Nat) := [(0, .aload_n 3, 1), (1, .iconst 0, 1), (2, .aload_n 0, 1), (3, .iload_n 1, 1), (4, .iload_n 2, 1), (5, .invokevirtual 43, 3), (8, .i2l, 1), (9, .lastore, 1), (10, .goto 7, 3), (13, .astore 4, 2), (15, .iconst 1, 1), (16, .ireturn, 1), (17, .iconst 0, 1), (18, .ireturn, 1)]
theorem t_L_mounted : jv_dec cL_mounted t0_L_mounted = true := by decide +kernel
def M_L_mounted : jm := (yL_mounted, cL_mounted, 5, (some .int), 8, 145, [(0, 10, 13, 18)])
theorem lk_L_43 : Cond.methodLink RL 43 M_X12_mounted.1 ∈ lw_tbl := (jv_at 1228 (by decide +kernel))
set_option maxRecDepth 20000 in
theorem me_X12_mounted : jv_me M_X12_mounted 2 := ⟨(jv_in5 (List.mem_of_getElem? (i := 111) rfl)), (jv_at 161 (by decide +kernel)), ⟨by decide, by decide⟩, by decide +kernel⟩
theorem mv_X12_mounted : jv_mv M_X12_mounted := ⟨(jv_at 1229 (by decide +kernel)), (jv_at 1230 (by decide +kernel))⟩
def f_L_mounted (a0 : Nat) (a1 : Int32) (a2 : Int32) (a3 : Nat) (h : jh) : Option (Int32 × jh) :=
  cVC h a0 10 (f_X12_mounted a0 a1 a2 h) (fun v1 h2 =>
  sL h2 a3 0 v1.toInt64 fun h3 =>
  some (0, h3)) (fun E h1 => if E = "java/util/NoSuchElementException" then
  some (1, h1)
  else none)
theorem P_L_mounted (X : jx) (a0 : Nat) (a1 : Int32) (a2 : Int32) (a3 : Nat) (h : jh) : jv_PH X M_L_mounted jeI [.ref (a0), .int (a1), .int (a2), .ref (a3)] h (f_L_mounted a0 a1 a2 a3 h) := by
  refine jv_PH.of (by decide) (by simp [Value.category]) (Nat.le_of_ble_eq_true rfl) ?_
  show jv_O X M_L_mounted (h.1, h.2.1) jeI 0 [some (.ref (a0)), some (.int (a1)), some (.int (a2)), some (.ref (a3)), none] [] h (f_L_mounted a0 a1 a2 a3 h)
  unfold f_L_mounted
  refine jv_aload_n (jv_dk t_L_mounted (k := 0) rfl) rfl rfl (Or.inr ⟨_, rfl⟩) ?_
  refine jv_iconst (v := 0) (jv_dk t_L_mounted (k := 1) rfl) (by decide) ?_
  refine jv_aload_n (jv_dk t_L_mounted (k := 2) rfl) rfl rfl (Or.inr ⟨_, rfl⟩) ?_
  refine jv_iload_n (jv_dk t_L_mounted (k := 3) rfl) rfl rfl ?_
  refine jv_iload_n (jv_dk t_L_mounted (k := 4) rfl) rfl rfl ?_
  refine jv_callVC (en' := jeIX) (pv := jpI) (As := [.int (a1), .int (a2)]) (S := [.int (0), .ref (a3)]) (jv_dk t_L_mounted (k := 5) rfl) (fun _ => rfl) (fun _ => rfl) lk_L_43 me_X12_mounted mv_X12_mounted ⟨by decide, by decide⟩ rfl rfl rfl (Nat.le_of_ble_eq_true rfl) (P_X12_mounted X a0 a1 a2 h) (fun v1 h2 => ?_) (fun E h1 => ?_)
  · show jv_O X M_L_mounted _ jeI 8 [some (.ref (a0)), some (.int (a1)), some (.int (a2)), some (.ref (a3)), none] [.int (v1), .int (0), .ref (a3)] h2 _
    refine jv_i2l (jv_dk t_L_mounted (k := 6) rfl) ?_
    refine jv_lastore (jv_dk t_L_mounted (k := 7) rfl) (fun h3 => ?_)
    refine jv_goto (tgt := 17) (jv_dk t_L_mounted (k := 8) rfl) rfl ?_
    refine jv_iconst (v := 0) (jv_dk t_L_mounted (k := 12) rfl) (by decide) ?_
    exact jv_iret (ty := .int) (jv_dk t_L_mounted (k := 13) rfl) rfl rfl rfl
  · by_cases e0 : E = "java/util/NoSuchElementException"
    · subst e0
      rw [if_pos rfl]
      exact Or.inr ⟨"java/util/NoSuchElementException", [], [], ⟨0, 10, 13, 18⟩, rfl, by decide, by decide, cc_L_18, ca_NoSuchElementException, (fun z hz => nomatch hz), fun q9 => by
        refine jv_astore (L' := [some (.ref (a0)), some (.int (a1)), some (.int (a2)), some (.ref (a3)), some (.ref (q9))]) (jv_dk t_L_mounted (k := 9) rfl) (Nat.le_of_ble_eq_true rfl) (Or.inr ⟨_, rfl⟩) rfl ?_
        refine jv_iconst (v := 1) (jv_dk t_L_mounted (k := 10) rfl) (by decide) ?_
        exact jv_iret (ty := .int) (jv_dk t_L_mounted (k := 11) rfl) rfl rfl rfl
      ⟩
    left
    rw [if_neg e0]
def t0_L_may : List (Nat × Instr × Nat) := [(0, .aload 4, 2), (2, .iconst 0, 1), (3, .aload_n 0, 1), (4, .iload_n 1, 1), (5, .iload_n 2, 1), (6, .iload_n 3, 1), (7, .invokevirtual 46, 3), (10, .i2l, 1), (11, .lastore, 1), (12, .goto 7, 3), (15, .astore 5, 2), (17, .iconst 1, 1), (18, .ireturn, 1), (19, .iconst 0, 1), (20, .ireturn, 1)]
theorem t_L_may : jv_dec cL_may t0_L_may = true := by decide +kernel
def M_L_may : jm := (yL_may, cL_may, 6, (some .int), 8, 145, [(0, 12, 15, 18)])
theorem lk_L_46 : Cond.methodLink RL 46 M_X12_may.1 ∈ lw_tbl := (jv_at 1235 (by decide +kernel))
set_option maxRecDepth 20000 in
theorem me_X12_may : jv_me M_X12_may 3 := ⟨(jv_in5 (List.mem_of_getElem? (i := 118) rfl)), (jv_at 161 (by decide +kernel)), ⟨by decide, by decide⟩, by decide +kernel⟩
theorem mv_X12_may : jv_mv M_X12_may := ⟨(jv_at 1236 (by decide +kernel)), (jv_at 1237 (by decide +kernel))⟩
def f_L_may (a0 : Nat) (a1 : Int32) (a2 : Int32) (a3 : Int32) (a4 : Nat) (h : jh) : Option (Int32 × jh) :=
  cVC h a0 10 (f_X12_may a0 a1 a2 a3 h) (fun v1 h2 =>
  sL h2 a4 0 v1.toInt64 fun h3 =>
  some (0, h3)) (fun E h1 => if E = "java/util/NoSuchElementException" then
  some (1, h1)
  else none)
theorem P_L_may (X : jx) (a0 : Nat) (a1 : Int32) (a2 : Int32) (a3 : Int32) (a4 : Nat) (h : jh) : jv_PH X M_L_may jeI [.ref (a0), .int (a1), .int (a2), .int (a3), .ref (a4)] h (f_L_may a0 a1 a2 a3 a4 h) := by
  refine jv_PH.of (by decide) (by simp [Value.category]) (Nat.le_of_ble_eq_true rfl) ?_
  show jv_O X M_L_may (h.1, h.2.1) jeI 0 [some (.ref (a0)), some (.int (a1)), some (.int (a2)), some (.int (a3)), some (.ref (a4)), none] [] h (f_L_may a0 a1 a2 a3 a4 h)
  unfold f_L_may
  refine jv_aload (jv_dk t_L_may (k := 0) rfl) rfl (Or.inr ⟨_, rfl⟩) ?_
  refine jv_iconst (v := 0) (jv_dk t_L_may (k := 1) rfl) (by decide) ?_
  refine jv_aload_n (jv_dk t_L_may (k := 2) rfl) rfl rfl (Or.inr ⟨_, rfl⟩) ?_
  refine jv_iload_n (jv_dk t_L_may (k := 3) rfl) rfl rfl ?_
  refine jv_iload_n (jv_dk t_L_may (k := 4) rfl) rfl rfl ?_
  refine jv_iload_n (jv_dk t_L_may (k := 5) rfl) rfl rfl ?_
  refine jv_callVC (en' := jeIX) (pv := jpI) (As := [.int (a1), .int (a2), .int (a3)]) (S := [.int (0), .ref (a4)]) (jv_dk t_L_may (k := 6) rfl) (fun _ => rfl) (fun _ => rfl) lk_L_46 me_X12_may mv_X12_may ⟨by decide, by decide⟩ rfl rfl rfl (Nat.le_of_ble_eq_true rfl) (P_X12_may X a0 a1 a2 a3 h) (fun v1 h2 => ?_) (fun E h1 => ?_)
  · show jv_O X M_L_may _ jeI 10 [some (.ref (a0)), some (.int (a1)), some (.int (a2)), some (.int (a3)), some (.ref (a4)), none] [.int (v1), .int (0), .ref (a4)] h2 _
    refine jv_i2l (jv_dk t_L_may (k := 7) rfl) ?_
    refine jv_lastore (jv_dk t_L_may (k := 8) rfl) (fun h3 => ?_)
    refine jv_goto (tgt := 19) (jv_dk t_L_may (k := 9) rfl) rfl ?_
    refine jv_iconst (v := 0) (jv_dk t_L_may (k := 13) rfl) (by decide) ?_
    exact jv_iret (ty := .int) (jv_dk t_L_may (k := 14) rfl) rfl rfl rfl
  · by_cases e0 : E = "java/util/NoSuchElementException"
    · subst e0
      rw [if_pos rfl]
      exact Or.inr ⟨"java/util/NoSuchElementException", [], [], ⟨0, 12, 15, 18⟩, rfl, by decide, by decide, cc_L_18, ca_NoSuchElementException, (fun z hz => nomatch hz), fun q9 => by
        refine jv_astore (L' := [some (.ref (a0)), some (.int (a1)), some (.int (a2)), some (.int (a3)), some (.ref (a4)), some (.ref (q9))]) (jv_dk t_L_may (k := 10) rfl) (Nat.le_of_ble_eq_true rfl) (Or.inr ⟨_, rfl⟩) rfl ?_
        refine jv_iconst (v := 1) (jv_dk t_L_may (k := 11) rfl) (by decide) ?_
        exact jv_iret (ty := .int) (jv_dk t_L_may (k := 12) rfl) rfl rfl rfl
      ⟩
    left
    rw [if_neg e0]
def t0_L_over : List (Nat × Instr × Nat) := [(0, .aload_n 3, 1), (1, .iconst 0, 1), (2, .aload_n 0, 1), (3, .iload_n 1, 1), (4, .iload_n 2, 1), (5, .invokevirtual 49, 3), (8, .i2l, 1), (9, .lastore, 1), (10, .goto 7, 3), (13, .astore 4, 2), (15, .iconst 1, 1), (16, .ireturn, 1), (17, .iconst 0, 1), (18, .ireturn, 1)]
theorem t_L_over : jv_dec cL_over t0_L_over = true := by decide +kernel
def M_L_over : jm := (yL_over, cL_over, 5, (some .int), 8, 145, [(0, 10, 13, 18)])
theorem lk_L_49 : Cond.methodLink RL 49 M_X12_over.1 ∈ lw_tbl := (jv_at 1246 (by decide +kernel))
set_option maxRecDepth 20000 in
theorem me_X12_over : jv_me M_X12_over 2 := ⟨(jv_in5 (List.mem_of_getElem? (i := 129) rfl)), (jv_at 161 (by decide +kernel)), ⟨by decide, by decide⟩, by decide +kernel⟩
theorem mv_X12_over : jv_mv M_X12_over := ⟨(jv_at 1247 (by decide +kernel)), (jv_at 1248 (by decide +kernel))⟩
def f_L_over (a0 : Nat) (a1 : Int32) (a2 : Int32) (a3 : Nat) (h : jh) : Option (Int32 × jh) :=
  cVC h a0 10 (f_X12_over a0 a1 a2 h) (fun v1 h2 =>
  sL h2 a3 0 v1.toInt64 fun h3 =>
  some (0, h3)) (fun E h1 => if E = "java/util/NoSuchElementException" then
  some (1, h1)
  else none)
theorem P_L_over (X : jx) (a0 : Nat) (a1 : Int32) (a2 : Int32) (a3 : Nat) (h : jh) : jv_PH X M_L_over jeI [.ref (a0), .int (a1), .int (a2), .ref (a3)] h (f_L_over a0 a1 a2 a3 h) := by
  refine jv_PH.of (by decide) (by simp [Value.category]) (Nat.le_of_ble_eq_true rfl) ?_
  show jv_O X M_L_over (h.1, h.2.1) jeI 0 [some (.ref (a0)), some (.int (a1)), some (.int (a2)), some (.ref (a3)), none] [] h (f_L_over a0 a1 a2 a3 h)
  unfold f_L_over
  refine jv_aload_n (jv_dk t_L_over (k := 0) rfl) rfl rfl (Or.inr ⟨_, rfl⟩) ?_
  refine jv_iconst (v := 0) (jv_dk t_L_over (k := 1) rfl) (by decide) ?_
  refine jv_aload_n (jv_dk t_L_over (k := 2) rfl) rfl rfl (Or.inr ⟨_, rfl⟩) ?_
  refine jv_iload_n (jv_dk t_L_over (k := 3) rfl) rfl rfl ?_
  refine jv_iload_n (jv_dk t_L_over (k := 4) rfl) rfl rfl ?_
  refine jv_callVC (en' := jeIX) (pv := jpI) (As := [.int (a1), .int (a2)]) (S := [.int (0), .ref (a3)]) (jv_dk t_L_over (k := 5) rfl) (fun _ => rfl) (fun _ => rfl) lk_L_49 me_X12_over mv_X12_over ⟨by decide, by decide⟩ rfl rfl rfl (Nat.le_of_ble_eq_true rfl) (P_X12_over X a0 a1 a2 h) (fun v1 h2 => ?_) (fun E h1 => ?_)
  · show jv_O X M_L_over _ jeI 8 [some (.ref (a0)), some (.int (a1)), some (.int (a2)), some (.ref (a3)), none] [.int (v1), .int (0), .ref (a3)] h2 _
    refine jv_i2l (jv_dk t_L_over (k := 6) rfl) ?_
    refine jv_lastore (jv_dk t_L_over (k := 7) rfl) (fun h3 => ?_)
    refine jv_goto (tgt := 17) (jv_dk t_L_over (k := 8) rfl) rfl ?_
    refine jv_iconst (v := 0) (jv_dk t_L_over (k := 12) rfl) (by decide) ?_
    exact jv_iret (ty := .int) (jv_dk t_L_over (k := 13) rfl) rfl rfl rfl
  · by_cases e0 : E = "java/util/NoSuchElementException"
    · subst e0
      rw [if_pos rfl]
      exact Or.inr ⟨"java/util/NoSuchElementException", [], [], ⟨0, 10, 13, 18⟩, rfl, by decide, by decide, cc_L_18, ca_NoSuchElementException, (fun z hz => nomatch hz), fun q9 => by
        refine jv_astore (L' := [some (.ref (a0)), some (.int (a1)), some (.int (a2)), some (.ref (a3)), some (.ref (q9))]) (jv_dk t_L_over (k := 9) rfl) (Nat.le_of_ble_eq_true rfl) (Or.inr ⟨_, rfl⟩) rfl ?_
        refine jv_iconst (v := 1) (jv_dk t_L_over (k := 10) rfl) (by decide) ?_
        exact jv_iret (ty := .int) (jv_dk t_L_over (k := 11) rfl) rfl rfl rfl
      ⟩
    left
    rw [if_neg e0]
def t0_L_set : List (Nat × Instr × Nat) := [(0, .aload_n 3, 1), (1, .iconst 0, 1), (2, .aload_n 0, 1), (3, .iload_n 1, 1), (4, .iload_n 2, 1), (5, .invokevirtual 52, 3), (8, .i2l, 1), (9, .lastore, 1), (10, .goto 7, 3), (13, .astore 4, 2), (15, .iconst 1, 1), (16, .ireturn, 1), (17, .iconst 0, 1), (18, .ireturn, 1)]
theorem t_L_set : jv_dec cL_set t0_L_set = true := by decide +kernel
def M_L_set : jm := (yL_set, cL_set, 5, (some .int), 8, 146, [(0, 10, 13, 18)])
theorem lk_L_52 : Cond.methodLink RL 52 M_X12_set.1 ∈ lw_tbl := (jv_at 1253 (by decide +kernel))
set_option maxRecDepth 20000 in
theorem me_X12_set : jv_me M_X12_set 2 := ⟨(jv_in5 (List.mem_of_getElem? (i := 136) rfl)), (jv_at 161 (by decide +kernel)), ⟨by decide, by decide⟩, by decide +kernel⟩
theorem mv_X12_set : jv_mv M_X12_set := ⟨(jv_at 1254 (by decide +kernel)), (jv_at 1255 (by decide +kernel))⟩
def f_L_set (a0 : Nat) (a1 : Int32) (a2 : Int32) (a3 : Nat) (h : jh) : Option (Int32 × jh) :=
  cVC h a0 10 (f_X12_set a0 a1 a2 h) (fun v1 h2 =>
  sL h2 a3 0 v1.toInt64 fun h3 =>
  some (0, h3)) (fun E h1 => if E = "java/util/NoSuchElementException" then
  some (1, h1)
  else none)
theorem P_L_set (X : jx) (a0 : Nat) (a1 : Int32) (a2 : Int32) (a3 : Nat) (h : jh) : jv_PH X M_L_set jeI [.ref (a0), .int (a1), .int (a2), .ref (a3)] h (f_L_set a0 a1 a2 a3 h) := by
  refine jv_PH.of (by decide) (by simp [Value.category]) (Nat.le_of_ble_eq_true rfl) ?_
  show jv_O X M_L_set (h.1, h.2.1) jeI 0 [some (.ref (a0)), some (.int (a1)), some (.int (a2)), some (.ref (a3)), none] [] h (f_L_set a0 a1 a2 a3 h)
  unfold f_L_set
  refine jv_aload_n (jv_dk t_L_set (k := 0) rfl) rfl rfl (Or.inr ⟨_, rfl⟩) ?_
  refine jv_iconst (v := 0) (jv_dk t_L_set (k := 1) rfl) (by decide) ?_
  refine jv_aload_n (jv_dk t_L_set (k := 2) rfl) rfl rfl (Or.inr ⟨_, rfl⟩) ?_
  refine jv_iload_n (jv_dk t_L_set (k := 3) rfl) rfl rfl ?_
  refine jv_iload_n (jv_dk t_L_set (k := 4) rfl) rfl rfl ?_
  refine jv_callVC (en' := jeIX) (pv := jpI) (As := [.int (a1), .int (a2)]) (S := [.int (0), .ref (a3)]) (jv_dk t_L_set (k := 5) rfl) (fun _ => rfl) (fun _ => rfl) lk_L_52 me_X12_set mv_X12_set ⟨by decide, by decide⟩ rfl rfl rfl (Nat.le_of_ble_eq_true rfl) (P_X12_set X a0 a1 a2 h) (fun v1 h2 => ?_) (fun E h1 => ?_)
  · show jv_O X M_L_set _ jeI 8 [some (.ref (a0)), some (.int (a1)), some (.int (a2)), some (.ref (a3)), none] [.int (v1), .int (0), .ref (a3)] h2 _
    refine jv_i2l (jv_dk t_L_set (k := 6) rfl) ?_
    refine jv_lastore (jv_dk t_L_set (k := 7) rfl) (fun h3 => ?_)
    refine jv_goto (tgt := 17) (jv_dk t_L_set (k := 8) rfl) rfl ?_
    refine jv_iconst (v := 0) (jv_dk t_L_set (k := 12) rfl) (by decide) ?_
    exact jv_iret (ty := .int) (jv_dk t_L_set (k := 13) rfl) rfl rfl rfl
  · by_cases e0 : E = "java/util/NoSuchElementException"
    · subst e0
      rw [if_pos rfl]
      exact Or.inr ⟨"java/util/NoSuchElementException", [], [], ⟨0, 10, 13, 18⟩, rfl, by decide, by decide, cc_L_18, ca_NoSuchElementException, (fun z hz => nomatch hz), fun q9 => by
        refine jv_astore (L' := [some (.ref (a0)), some (.int (a1)), some (.int (a2)), some (.ref (a3)), some (.ref (q9))]) (jv_dk t_L_set (k := 9) rfl) (Nat.le_of_ble_eq_true rfl) (Or.inr ⟨_, rfl⟩) rfl ?_
        refine jv_iconst (v := 1) (jv_dk t_L_set (k := 10) rfl) (by decide) ?_
        exact jv_iret (ty := .int) (jv_dk t_L_set (k := 11) rfl) rfl rfl rfl
      ⟩
    left
    rw [if_neg e0]
def t0_L_shared : List (Nat × Instr × Nat) := [(0, .aload_n 3, 1), (1, .iconst 0, 1), (2, .aload_n 0, 1), (3, .iload_n 1, 1), (4, .iload_n 2, 1), (5, .invokevirtual 55, 3), (8, .i2l, 1), (9, .lastore, 1), (10, .goto 7, 3), (13, .astore 4, 2), (15, .iconst 1, 1), (16, .ireturn, 1), (17, .iconst 0, 1), (18, .ireturn, 1)]
theorem t_L_shared : jv_dec cL_shared t0_L_shared = true := by decide +kernel
def M_L_shared : jm := (yL_shared, cL_shared, 5, (some .int), 8, 148, [(0, 10, 13, 18)])
theorem lk_L_55 : Cond.methodLink RL 55 M_X12_shared.1 ∈ lw_tbl := (jv_at 1289 (by decide +kernel))
set_option maxRecDepth 20000 in
theorem me_X12_shared : jv_me M_X12_shared 2 := ⟨(jv_in5 (List.mem_of_getElem? (i := 172) rfl)), (jv_at 161 (by decide +kernel)), ⟨by decide, by decide⟩, by decide +kernel⟩
theorem mv_X12_shared : jv_mv M_X12_shared := ⟨(jv_at 1290 (by decide +kernel)), (jv_at 1291 (by decide +kernel))⟩
def f_L_shared (a0 : Nat) (a1 : Int32) (a2 : Int32) (a3 : Nat) (h : jh) : Option (Int32 × jh) :=
  cVC h a0 10 (f_X12_shared a0 a1 a2 h) (fun v1 h2 =>
  sL h2 a3 0 v1.toInt64 fun h3 =>
  some (0, h3)) (fun E h1 => if E = "java/util/NoSuchElementException" then
  some (1, h1)
  else none)
theorem P_L_shared (X : jx) (a0 : Nat) (a1 : Int32) (a2 : Int32) (a3 : Nat) (h : jh) : jv_PH X M_L_shared jeI [.ref (a0), .int (a1), .int (a2), .ref (a3)] h (f_L_shared a0 a1 a2 a3 h) := by
  refine jv_PH.of (by decide) (by simp [Value.category]) (Nat.le_of_ble_eq_true rfl) ?_
  show jv_O X M_L_shared (h.1, h.2.1) jeI 0 [some (.ref (a0)), some (.int (a1)), some (.int (a2)), some (.ref (a3)), none] [] h (f_L_shared a0 a1 a2 a3 h)
  unfold f_L_shared
  refine jv_aload_n (jv_dk t_L_shared (k := 0) rfl) rfl rfl (Or.inr ⟨_, rfl⟩) ?_
  refine jv_iconst (v := 0) (jv_dk t_L_shared (k := 1) rfl) (by decide) ?_
  refine jv_aload_n (jv_dk t_L_shared (k := 2) rfl) rfl rfl (Or.inr ⟨_, rfl⟩) ?_
  refine jv_iload_n (jv_dk t_L_shared (k := 3) rfl) rfl rfl ?_
  refine jv_iload_n (jv_dk t_L_shared (k := 4) rfl) rfl rfl ?_
  refine jv_callVC (en' := jeIX) (pv := jpI) (As := [.int (a1), .int (a2)]) (S := [.int (0), .ref (a3)]) (jv_dk t_L_shared (k := 5) rfl) (fun _ => rfl) (fun _ => rfl) lk_L_55 me_X12_shared mv_X12_shared ⟨by decide, by decide⟩ rfl rfl rfl (Nat.le_of_ble_eq_true rfl) (P_X12_shared X a0 a1 a2 h) (fun v1 h2 => ?_) (fun E h1 => ?_)
  · show jv_O X M_L_shared _ jeI 8 [some (.ref (a0)), some (.int (a1)), some (.int (a2)), some (.ref (a3)), none] [.int (v1), .int (0), .ref (a3)] h2 _
    refine jv_i2l (jv_dk t_L_shared (k := 6) rfl) ?_
    refine jv_lastore (jv_dk t_L_shared (k := 7) rfl) (fun h3 => ?_)
    refine jv_goto (tgt := 17) (jv_dk t_L_shared (k := 8) rfl) rfl ?_
    refine jv_iconst (v := 0) (jv_dk t_L_shared (k := 12) rfl) (by decide) ?_
    exact jv_iret (ty := .int) (jv_dk t_L_shared (k := 13) rfl) rfl rfl rfl
  · by_cases e0 : E = "java/util/NoSuchElementException"
    · subst e0
      rw [if_pos rfl]
      exact Or.inr ⟨"java/util/NoSuchElementException", [], [], ⟨0, 10, 13, 18⟩, rfl, by decide, by decide, cc_L_18, ca_NoSuchElementException, (fun z hz => nomatch hz), fun q9 => by
        refine jv_astore (L' := [some (.ref (a0)), some (.int (a1)), some (.int (a2)), some (.ref (a3)), some (.ref (q9))]) (jv_dk t_L_shared (k := 9) rfl) (Nat.le_of_ble_eq_true rfl) (Or.inr ⟨_, rfl⟩) rfl ?_
        refine jv_iconst (v := 1) (jv_dk t_L_shared (k := 10) rfl) (by decide) ?_
        exact jv_iret (ty := .int) (jv_dk t_L_shared (k := 11) rfl) rfl rfl rfl
      ⟩
    left
    rw [if_neg e0]
def t0_L_steps : List (Nat × Instr × Nat) := [(0, .aload_n 3, 1), (1, .iconst 0, 1), (2, .aload_n 0, 1), (3, .iload_n 1, 1), (4, .iload_n 2, 1), (5, .invokevirtual 58, 3), (8, .i2l, 1), (9, .lastore, 1), (10, .goto 7, 3), (13, .astore 4, 2), (15, .iconst 1, 1), (16, .ireturn, 1), (17, .iconst 0, 1), (18, .ireturn, 1)]
theorem t_L_steps : jv_dec cL_steps t0_L_steps = true := by decide +kernel
def M_L_steps : jm := (yL_steps, cL_steps, 5, (some .int), 8, 145, [(0, 10, 13, 18)])
theorem lk_L_58 : Cond.methodLink RL 58 M_X12_steps.1 ∈ lw_tbl := (jv_at 1297 (by decide +kernel))
set_option maxRecDepth 20000 in
theorem me_X12_steps : jv_me M_X12_steps 2 := ⟨(jv_in5 (List.mem_of_getElem? (i := 180) rfl)), (jv_at 161 (by decide +kernel)), ⟨by decide, by decide⟩, by decide +kernel⟩
theorem mv_X12_steps : jv_mv M_X12_steps := ⟨(jv_at 1298 (by decide +kernel)), (jv_at 1299 (by decide +kernel))⟩
def f_L_steps (a0 : Nat) (a1 : Int32) (a2 : Int32) (a3 : Nat) (h : jh) : Option (Int32 × jh) :=
  cVC h a0 10 (f_X12_steps a0 a1 a2 h) (fun v1 h2 =>
  sL h2 a3 0 v1.toInt64 fun h3 =>
  some (0, h3)) (fun E h1 => if E = "java/util/NoSuchElementException" then
  some (1, h1)
  else none)
theorem P_L_steps (X : jx) (a0 : Nat) (a1 : Int32) (a2 : Int32) (a3 : Nat) (h : jh) : jv_PH X M_L_steps jeI [.ref (a0), .int (a1), .int (a2), .ref (a3)] h (f_L_steps a0 a1 a2 a3 h) := by
  refine jv_PH.of (by decide) (by simp [Value.category]) (Nat.le_of_ble_eq_true rfl) ?_
  show jv_O X M_L_steps (h.1, h.2.1) jeI 0 [some (.ref (a0)), some (.int (a1)), some (.int (a2)), some (.ref (a3)), none] [] h (f_L_steps a0 a1 a2 a3 h)
  unfold f_L_steps
  refine jv_aload_n (jv_dk t_L_steps (k := 0) rfl) rfl rfl (Or.inr ⟨_, rfl⟩) ?_
  refine jv_iconst (v := 0) (jv_dk t_L_steps (k := 1) rfl) (by decide) ?_
  refine jv_aload_n (jv_dk t_L_steps (k := 2) rfl) rfl rfl (Or.inr ⟨_, rfl⟩) ?_
  refine jv_iload_n (jv_dk t_L_steps (k := 3) rfl) rfl rfl ?_
  refine jv_iload_n (jv_dk t_L_steps (k := 4) rfl) rfl rfl ?_
  refine jv_callVC (en' := jeIX) (pv := jpI) (As := [.int (a1), .int (a2)]) (S := [.int (0), .ref (a3)]) (jv_dk t_L_steps (k := 5) rfl) (fun _ => rfl) (fun _ => rfl) lk_L_58 me_X12_steps mv_X12_steps ⟨by decide, by decide⟩ rfl rfl rfl (Nat.le_of_ble_eq_true rfl) (P_X12_steps X a0 a1 a2 h) (fun v1 h2 => ?_) (fun E h1 => ?_)
  · show jv_O X M_L_steps _ jeI 8 [some (.ref (a0)), some (.int (a1)), some (.int (a2)), some (.ref (a3)), none] [.int (v1), .int (0), .ref (a3)] h2 _
    refine jv_i2l (jv_dk t_L_steps (k := 6) rfl) ?_
    refine jv_lastore (jv_dk t_L_steps (k := 7) rfl) (fun h3 => ?_)
    refine jv_goto (tgt := 17) (jv_dk t_L_steps (k := 8) rfl) rfl ?_
    refine jv_iconst (v := 0) (jv_dk t_L_steps (k := 12) rfl) (by decide) ?_
    exact jv_iret (ty := .int) (jv_dk t_L_steps (k := 13) rfl) rfl rfl rfl
  · by_cases e0 : E = "java/util/NoSuchElementException"
    · subst e0
      rw [if_pos rfl]
      exact Or.inr ⟨"java/util/NoSuchElementException", [], [], ⟨0, 10, 13, 18⟩, rfl, by decide, by decide, cc_L_18, ca_NoSuchElementException, (fun z hz => nomatch hz), fun q9 => by
        refine jv_astore (L' := [some (.ref (a0)), some (.int (a1)), some (.int (a2)), some (.ref (a3)), some (.ref (q9))]) (jv_dk t_L_steps (k := 9) rfl) (Nat.le_of_ble_eq_true rfl) (Or.inr ⟨_, rfl⟩) rfl ?_
        refine jv_iconst (v := 1) (jv_dk t_L_steps (k := 10) rfl) (by decide) ?_
        exact jv_iret (ty := .int) (jv_dk t_L_steps (k := 11) rfl) rfl rfl rfl
      ⟩
    left
    rw [if_neg e0]
def t0_L_look : List (Nat × Instr × Nat) := [(0, .aload_n 2, 1), (1, .iconst 0, 1), (2, .aload_n 0, 1), (3, .iload_n 1, 1), (4, .invokevirtual 61, 3), (7, .i2l, 1), (8, .lastore, 1), (9, .goto 6, 3), (12, .astore_n 3, 1), (13, .iconst 1, 1), (14, .ireturn, 1), (15, .iconst 0, 1), (16, .ireturn, 1)]
theorem t_L_look : jv_dec cL_look t0_L_look = true := by decide +kernel
def M_L_look : jm := (yL_look, cL_look, 4, (some .int), 7, 127, [(0, 9, 12, 18)])
theorem lk_L_61 : Cond.methodLink RL 61 M_X12_look.1 ∈ lw_tbl := (jv_at 1304 (by decide +kernel))
set_option maxRecDepth 20000 in
theorem me_X12_look : jv_me M_X12_look 1 := ⟨(jv_in5 (List.mem_of_getElem? (i := 187) rfl)), (jv_at 161 (by decide +kernel)), ⟨by decide, by decide⟩, by decide +kernel⟩
theorem mv_X12_look : jv_mv M_X12_look := ⟨(jv_at 1305 (by decide +kernel)), (jv_at 1306 (by decide +kernel))⟩
def f_L_look (a0 : Nat) (a1 : Int32) (a2 : Nat) (h : jh) : Option (Int32 × jh) :=
  cVC h a0 10 (f_X12_look a0 a1 h) (fun v1 h2 =>
  sL h2 a2 0 v1.toInt64 fun h3 =>
  some (0, h3)) (fun E h1 => if E = "java/util/NoSuchElementException" then
  some (1, h1)
  else none)
theorem P_L_look (X : jx) (a0 : Nat) (a1 : Int32) (a2 : Nat) (h : jh) : jv_PH X M_L_look jeI [.ref (a0), .int (a1), .ref (a2)] h (f_L_look a0 a1 a2 h) := by
  refine jv_PH.of (by decide) (by simp [Value.category]) (Nat.le_of_ble_eq_true rfl) ?_
  show jv_O X M_L_look (h.1, h.2.1) jeI 0 [some (.ref (a0)), some (.int (a1)), some (.ref (a2)), none] [] h (f_L_look a0 a1 a2 h)
  unfold f_L_look
  refine jv_aload_n (jv_dk t_L_look (k := 0) rfl) rfl rfl (Or.inr ⟨_, rfl⟩) ?_
  refine jv_iconst (v := 0) (jv_dk t_L_look (k := 1) rfl) (by decide) ?_
  refine jv_aload_n (jv_dk t_L_look (k := 2) rfl) rfl rfl (Or.inr ⟨_, rfl⟩) ?_
  refine jv_iload_n (jv_dk t_L_look (k := 3) rfl) rfl rfl ?_
  refine jv_callVC (en' := jeIX) (pv := jpI) (As := [.int (a1)]) (S := [.int (0), .ref (a2)]) (jv_dk t_L_look (k := 4) rfl) (fun _ => rfl) (fun _ => rfl) lk_L_61 me_X12_look mv_X12_look ⟨by decide, by decide⟩ rfl rfl rfl (Nat.le_of_ble_eq_true rfl) (P_X12_look X a0 a1 h) (fun v1 h2 => ?_) (fun E h1 => ?_)
  · show jv_O X M_L_look _ jeI 7 [some (.ref (a0)), some (.int (a1)), some (.ref (a2)), none] [.int (v1), .int (0), .ref (a2)] h2 _
    refine jv_i2l (jv_dk t_L_look (k := 5) rfl) ?_
    refine jv_lastore (jv_dk t_L_look (k := 6) rfl) (fun h3 => ?_)
    refine jv_goto (tgt := 15) (jv_dk t_L_look (k := 7) rfl) rfl ?_
    refine jv_iconst (v := 0) (jv_dk t_L_look (k := 11) rfl) (by decide) ?_
    exact jv_iret (ty := .int) (jv_dk t_L_look (k := 12) rfl) rfl rfl rfl
  · by_cases e0 : E = "java/util/NoSuchElementException"
    · subst e0
      rw [if_pos rfl]
      exact Or.inr ⟨"java/util/NoSuchElementException", [], [], ⟨0, 9, 12, 18⟩, rfl, by decide, by decide, cc_L_18, ca_NoSuchElementException, (fun z hz => nomatch hz), fun q9 => by
        refine jv_astore_n (L' := [some (.ref (a0)), some (.int (a1)), some (.ref (a2)), some (.ref (q9))]) (jv_dk t_L_look (k := 8) rfl) rfl (Nat.le_of_ble_eq_true rfl) (Or.inr ⟨_, rfl⟩) rfl ?_
        refine jv_iconst (v := 1) (jv_dk t_L_look (k := 9) rfl) (by decide) ?_
        exact jv_iret (ty := .int) (jv_dk t_L_look (k := 10) rfl) rfl rfl rfl
      ⟩
    left
    rw [if_neg e0]
def t0_L_years : List (Nat × Instr × Nat) := [(0, .aload 4, 2), (2, .iconst 0, 1), (3, .aload_n 0, 1), (4, .iload_n 1, 1), (5, .iload_n 2, 1), (6, .iload_n 3, 1), (7, .invokevirtual 64, 3), (10, .i2l, 1), (11, .lastore, 1), (12, .goto 11, 3), (15, .astore 5, 2), (17, .iconst 1, 1), (18, .ireturn, 1), (19, .astore 5, 2), (21, .iconst 2, 1), (22, .ireturn, 1), (23, .iconst 0, 1), (24, .ireturn, 1)]
theorem t_L_years : jv_dec cL_years t0_L_years = true := by decide +kernel
def M_L_years : jm := (yL_years, cL_years, 6, (some .int), 8, 228, [(0, 12, 15, 18), (0, 12, 19, 13)])
theorem lk_L_64 : Cond.methodLink RL 64 M_X12_years.1 ∈ lw_tbl := (jv_at 1317 (by decide +kernel))
set_option maxRecDepth 20000 in
theorem me_X12_years : jv_me M_X12_years 3 := ⟨(jv_in5 (List.mem_of_getElem? (i := 200) rfl)), (jv_at 161 (by decide +kernel)), ⟨by decide, by decide⟩, by decide +kernel⟩
theorem mv_X12_years : jv_mv M_X12_years := ⟨(jv_at 1318 (by decide +kernel)), (jv_at 1319 (by decide +kernel))⟩
def f_L_years (a0 : Nat) (a1 : Int32) (a2 : Int32) (a3 : Int32) (a4 : Nat) (h : jh) : Option (Int32 × jh) :=
  cVC h a0 10 (f_X12_years a0 a1 a2 a3 h) (fun v1 h2 =>
  sL h2 a4 0 v1.toInt64 fun h3 =>
  some (0, h3)) (fun E h1 => if E = "java/util/NoSuchElementException" then
  some (1, h1)
  else if E = "java/lang/IllegalArgumentException" then
  some (2, h1)
  else none)
theorem P_L_years (X : jx) (a0 : Nat) (a1 : Int32) (a2 : Int32) (a3 : Int32) (a4 : Nat) (h : jh) : jv_PH X M_L_years jeI [.ref (a0), .int (a1), .int (a2), .int (a3), .ref (a4)] h (f_L_years a0 a1 a2 a3 a4 h) := by
  refine jv_PH.of (by decide) (by simp [Value.category]) (Nat.le_of_ble_eq_true rfl) ?_
  show jv_O X M_L_years (h.1, h.2.1) jeI 0 [some (.ref (a0)), some (.int (a1)), some (.int (a2)), some (.int (a3)), some (.ref (a4)), none] [] h (f_L_years a0 a1 a2 a3 a4 h)
  unfold f_L_years
  refine jv_aload (jv_dk t_L_years (k := 0) rfl) rfl (Or.inr ⟨_, rfl⟩) ?_
  refine jv_iconst (v := 0) (jv_dk t_L_years (k := 1) rfl) (by decide) ?_
  refine jv_aload_n (jv_dk t_L_years (k := 2) rfl) rfl rfl (Or.inr ⟨_, rfl⟩) ?_
  refine jv_iload_n (jv_dk t_L_years (k := 3) rfl) rfl rfl ?_
  refine jv_iload_n (jv_dk t_L_years (k := 4) rfl) rfl rfl ?_
  refine jv_iload_n (jv_dk t_L_years (k := 5) rfl) rfl rfl ?_
  refine jv_callVC (en' := jeIX) (pv := jpI) (As := [.int (a1), .int (a2), .int (a3)]) (S := [.int (0), .ref (a4)]) (jv_dk t_L_years (k := 6) rfl) (fun _ => rfl) (fun _ => rfl) lk_L_64 me_X12_years mv_X12_years ⟨by decide, by decide⟩ rfl rfl rfl (Nat.le_of_ble_eq_true rfl) (P_X12_years X a0 a1 a2 a3 h) (fun v1 h2 => ?_) (fun E h1 => ?_)
  · show jv_O X M_L_years _ jeI 10 [some (.ref (a0)), some (.int (a1)), some (.int (a2)), some (.int (a3)), some (.ref (a4)), none] [.int (v1), .int (0), .ref (a4)] h2 _
    refine jv_i2l (jv_dk t_L_years (k := 7) rfl) ?_
    refine jv_lastore (jv_dk t_L_years (k := 8) rfl) (fun h3 => ?_)
    refine jv_goto (tgt := 23) (jv_dk t_L_years (k := 9) rfl) rfl ?_
    refine jv_iconst (v := 0) (jv_dk t_L_years (k := 16) rfl) (by decide) ?_
    exact jv_iret (ty := .int) (jv_dk t_L_years (k := 17) rfl) rfl rfl rfl
  · by_cases e0 : E = "java/util/NoSuchElementException"
    · subst e0
      rw [if_pos rfl]
      exact Or.inr ⟨"java/util/NoSuchElementException", [], [⟨0, 12, 19, 13⟩], ⟨0, 12, 15, 18⟩, rfl, by decide, by decide, cc_L_18, ca_NoSuchElementException, (fun z hz => nomatch hz), fun q9 => by
        refine jv_astore (L' := [some (.ref (a0)), some (.int (a1)), some (.int (a2)), some (.int (a3)), some (.ref (a4)), some (.ref (q9))]) (jv_dk t_L_years (k := 10) rfl) (Nat.le_of_ble_eq_true rfl) (Or.inr ⟨_, rfl⟩) rfl ?_
        refine jv_iconst (v := 1) (jv_dk t_L_years (k := 11) rfl) (by decide) ?_
        exact jv_iret (ty := .int) (jv_dk t_L_years (k := 12) rfl) rfl rfl rfl
      ⟩
    by_cases e1 : E = "java/lang/IllegalArgumentException"
    · subst e1
      rw [if_neg (by decide)]
      rw [if_pos rfl]
      exact Or.inr ⟨"java/lang/IllegalArgumentException", [⟨0, 12, 15, 18⟩], [], ⟨0, 12, 19, 13⟩, rfl, by decide, by decide, cc_L_13, ca_IllegalArgumentException, (fun z hz => by rw [List.mem_singleton.mp hz]; exact Or.inr ⟨by decide, "java/util/NoSuchElementException", cc_L_18, fun U hK => hK.2.2.2.2.2.2.2.2.2.2.2⟩), fun q9 => by
        refine jv_astore (L' := [some (.ref (a0)), some (.int (a1)), some (.int (a2)), some (.int (a3)), some (.ref (a4)), some (.ref (q9))]) (jv_dk t_L_years (k := 13) rfl) (Nat.le_of_ble_eq_true rfl) (Or.inr ⟨_, rfl⟩) rfl ?_
        refine jv_iconst (v := 2) (jv_dk t_L_years (k := 14) rfl) (by decide) ?_
        exact jv_iret (ty := .int) (jv_dk t_L_years (k := 15) rfl) rfl rfl rfl
      ⟩
    left
    rw [if_neg e0, if_neg e1]
