def t0_X13_image : List (Nat × Instr × Nat) := [(0, .aload_n 0, 1), (1, .iconst 0, 1), (2, .putfield 96, 3), (5, .aload_n 0, 1), (6, .iconst 1, 1), (7, .putfield 201, 3), (10, .aload_n 0, 1), (11, .aload_n 0, 1), (12, .getfield 195, 3), (15, .putfield 403, 3), (18, .aload_n 0, 1), (19, .aload_n 0, 1), (20, .getfield 198, 3), (23, .putfield 406, 3), (26, .aload_n 0, 1), (27, .getfield 75, 3), (30, .aload_n 0, 1), (31, .getfield 37, 3), (34, .invokestatic 323, 3), (37, .aload_n 0, 1), (38, .getfield 78, 3), (41, .aload_n 0, 1), (42, .getfield 57, 3), (45, .invokestatic 323, 3), (48, .aload_n 0, 1), (49, .getfield 81, 3), (52, .aload_n 0, 1), (53, .getfield 66, 3), (56, .invokestatic 323, 3), (59, .aload_n 0, 1), (60, .getfield 84, 3), (63, .aload_n 0, 1), (64, .getfield 69, 3), (67, .invokestatic 323, 3), (70, .aload_n 0, 1), (71, .getfield 87, 3), (74, .aload_n 0, 1), (75, .getfield 72, 3), (78, .invokestatic 323, 3), (81, .aload_n 0, 1), (82, .getfield 90, 3), (85, .aload_n 0, 1), (86, .getfield 41, 3), (89, .invokestatic 323, 3), (92, .return_, 1)]
theorem t_X13_image : jv_dec cX13_image t0_X13_image = true := by decide +kernel
def M_X13_image : jm := (yX13_image, cX13_image, 1, none, 1, 22, [])
theorem fl_X13_403 : jv_F RX13 403 11 28 RX13 TX13 36 := ⟨rfl, by decide, inX13, Or.inl (jv_at 1400 (by decide +kernel))⟩
theorem fl_X13_406 : jv_F RX13 406 11 29 RX13 TX13 36 := ⟨rfl, by decide, inX13, Or.inl (jv_at 1401 (by decide +kernel))⟩
def f_X13_image (a0 : Nat) (h : jh) : Option (Unit × jh) :=
  pV h a0 11 1 (.int (0)) fun h1 =>
  pV h1 a0 11 27 (.int (1)) fun h2 =>
  gI h2 a0 11 18 fun v3 =>
  pV h2 a0 11 28 (.int (v3)) fun h4 =>
  gI h4 a0 11 22 fun v5 =>
  pV h4 a0 11 29 (.int (v5)) fun h6 =>
  gR h6 a0 11 30 fun v7 =>
  gR h6 a0 11 2 fun v8 =>
  bd (f_X13_copyTo v7 v8 h6) fun _ h9 =>
  gR h9 a0 11 31 fun v10 =>
  gR h9 a0 11 19 fun v11 =>
  bd (f_X13_copyTo v10 v11 h9) fun _ h12 =>
  gR h12 a0 11 32 fun v13 =>
  gR h12 a0 11 23 fun v14 =>
  bd (f_X13_copyTo v13 v14 h12) fun _ h15 =>
  gR h15 a0 11 33 fun v16 =>
  gR h15 a0 11 24 fun v17 =>
  bd (f_X13_copyTo v16 v17 h15) fun _ h18 =>
  gR h18 a0 11 34 fun v19 =>
  gR h18 a0 11 25 fun v20 =>
  bd (f_X13_copyTo v19 v20 h18) fun _ h21 =>
  gR h21 a0 11 35 fun v22 =>
  gR h21 a0 11 3 fun v23 =>
  bd (f_X13_copyTo v22 v23 h21) fun _ h24 =>
  some ((), h24)
theorem P_X13_image (X : jx) (a0 : Nat) (h : jh) : jv_P X M_X13_image jeV [.ref (a0)] h (f_X13_image a0 h) := by
  refine jv_P.of (by decide) rfl (by simp [Value.category]) (Nat.le_of_ble_eq_true rfl) ?_
  show jv_O X M_X13_image (h.1, h.2.1) jeV 0 [some (.ref (a0))] [] h (f_X13_image a0 h)
  unfold f_X13_image
  refine jv_aload_n (jv_dk t_X13_image (k := 0) rfl) rfl rfl (Or.inr ⟨_, rfl⟩) ?_
  refine jv_iconst (v := 0) (jv_dk t_X13_image (k := 1) rfl) (by decide) ?_
  refine jv_pV (jv_dk t_X13_image (k := 2) rfl) fl_X13_96 kX13 (Or.inl rfl) rfl rfl rfl (fun h1 => ?_)
  refine jv_aload_n (jv_dk t_X13_image (k := 3) rfl) rfl rfl (Or.inr ⟨_, rfl⟩) ?_
  refine jv_iconst (v := 1) (jv_dk t_X13_image (k := 4) rfl) (by decide) ?_
  refine jv_pV (jv_dk t_X13_image (k := 5) rfl) fl_X13_201 kX13 (Or.inl rfl) rfl rfl rfl (fun h2 => ?_)
  refine jv_aload_n (jv_dk t_X13_image (k := 6) rfl) rfl rfl (Or.inr ⟨_, rfl⟩) ?_
  refine jv_aload_n (jv_dk t_X13_image (k := 7) rfl) rfl rfl (Or.inr ⟨_, rfl⟩) ?_
  refine jv_gI (jv_dk t_X13_image (k := 8) rfl) fl_X13_195 (fun v3 => ?_)
  refine jv_pV (jv_dk t_X13_image (k := 9) rfl) fl_X13_403 kX13 (Or.inl rfl) rfl rfl rfl (fun h4 => ?_)
  refine jv_aload_n (jv_dk t_X13_image (k := 10) rfl) rfl rfl (Or.inr ⟨_, rfl⟩) ?_
  refine jv_aload_n (jv_dk t_X13_image (k := 11) rfl) rfl rfl (Or.inr ⟨_, rfl⟩) ?_
  refine jv_gI (jv_dk t_X13_image (k := 12) rfl) fl_X13_198 (fun v5 => ?_)
  refine jv_pV (jv_dk t_X13_image (k := 13) rfl) fl_X13_406 kX13 (Or.inl rfl) rfl rfl rfl (fun h6 => ?_)
  refine jv_aload_n (jv_dk t_X13_image (k := 14) rfl) rfl rfl (Or.inr ⟨_, rfl⟩) ?_
  refine jv_gR (jv_dk t_X13_image (k := 15) rfl) fl_X13_75 (fun v7 => ?_)
  refine jv_aload_n (jv_dk t_X13_image (k := 16) rfl) rfl rfl (Or.inr ⟨_, rfl⟩) ?_
  refine jv_gR (jv_dk t_X13_image (k := 17) rfl) fl_X13_37 (fun v8 => ?_)
  refine jv_callS (en' := jeV) (pv := jpV) (As := [.ref (v7), .ref (v8)]) (S := []) (jv_dk t_X13_image (k := 18) rfl) (fun _ => rfl) (Or.inl lk_X13_323) me_X13_copyTo ms_X13_copyTo ⟨by decide, by decide⟩ rfl rfl (Nat.le_of_ble_eq_true rfl) (P_X13_copyTo X v7 v8 h6) (fun _ h9 => ?_)
  show jv_O X M_X13_image _ jeV 37 [some (.ref (a0))] [] h9 _
  refine jv_aload_n (jv_dk t_X13_image (k := 19) rfl) rfl rfl (Or.inr ⟨_, rfl⟩) ?_
  refine jv_gR (jv_dk t_X13_image (k := 20) rfl) fl_X13_78 (fun v10 => ?_)
  refine jv_aload_n (jv_dk t_X13_image (k := 21) rfl) rfl rfl (Or.inr ⟨_, rfl⟩) ?_
  refine jv_gR (jv_dk t_X13_image (k := 22) rfl) fl_X13_57 (fun v11 => ?_)
  refine jv_callS (en' := jeV) (pv := jpV) (As := [.ref (v10), .ref (v11)]) (S := []) (jv_dk t_X13_image (k := 23) rfl) (fun _ => rfl) (Or.inl lk_X13_323) me_X13_copyTo ms_X13_copyTo ⟨by decide, by decide⟩ rfl rfl (Nat.le_of_ble_eq_true rfl) (P_X13_copyTo X v10 v11 h9) (fun _ h12 => ?_)
  show jv_O X M_X13_image _ jeV 48 [some (.ref (a0))] [] h12 _
  refine jv_aload_n (jv_dk t_X13_image (k := 24) rfl) rfl rfl (Or.inr ⟨_, rfl⟩) ?_
  refine jv_gR (jv_dk t_X13_image (k := 25) rfl) fl_X13_81 (fun v13 => ?_)
  refine jv_aload_n (jv_dk t_X13_image (k := 26) rfl) rfl rfl (Or.inr ⟨_, rfl⟩) ?_
  refine jv_gR (jv_dk t_X13_image (k := 27) rfl) fl_X13_66 (fun v14 => ?_)
  refine jv_callS (en' := jeV) (pv := jpV) (As := [.ref (v13), .ref (v14)]) (S := []) (jv_dk t_X13_image (k := 28) rfl) (fun _ => rfl) (Or.inl lk_X13_323) me_X13_copyTo ms_X13_copyTo ⟨by decide, by decide⟩ rfl rfl (Nat.le_of_ble_eq_true rfl) (P_X13_copyTo X v13 v14 h12) (fun _ h15 => ?_)
  show jv_O X M_X13_image _ jeV 59 [some (.ref (a0))] [] h15 _
  refine jv_aload_n (jv_dk t_X13_image (k := 29) rfl) rfl rfl (Or.inr ⟨_, rfl⟩) ?_
  refine jv_gR (jv_dk t_X13_image (k := 30) rfl) fl_X13_84 (fun v16 => ?_)
  refine jv_aload_n (jv_dk t_X13_image (k := 31) rfl) rfl rfl (Or.inr ⟨_, rfl⟩) ?_
  refine jv_gR (jv_dk t_X13_image (k := 32) rfl) fl_X13_69 (fun v17 => ?_)
  refine jv_callS (en' := jeV) (pv := jpV) (As := [.ref (v16), .ref (v17)]) (S := []) (jv_dk t_X13_image (k := 33) rfl) (fun _ => rfl) (Or.inl lk_X13_323) me_X13_copyTo ms_X13_copyTo ⟨by decide, by decide⟩ rfl rfl (Nat.le_of_ble_eq_true rfl) (P_X13_copyTo X v16 v17 h15) (fun _ h18 => ?_)
  show jv_O X M_X13_image _ jeV 70 [some (.ref (a0))] [] h18 _
  refine jv_aload_n (jv_dk t_X13_image (k := 34) rfl) rfl rfl (Or.inr ⟨_, rfl⟩) ?_
  refine jv_gR (jv_dk t_X13_image (k := 35) rfl) fl_X13_87 (fun v19 => ?_)
  refine jv_aload_n (jv_dk t_X13_image (k := 36) rfl) rfl rfl (Or.inr ⟨_, rfl⟩) ?_
  refine jv_gR (jv_dk t_X13_image (k := 37) rfl) fl_X13_72 (fun v20 => ?_)
  refine jv_callS (en' := jeV) (pv := jpV) (As := [.ref (v19), .ref (v20)]) (S := []) (jv_dk t_X13_image (k := 38) rfl) (fun _ => rfl) (Or.inl lk_X13_323) me_X13_copyTo ms_X13_copyTo ⟨by decide, by decide⟩ rfl rfl (Nat.le_of_ble_eq_true rfl) (P_X13_copyTo X v19 v20 h18) (fun _ h21 => ?_)
  show jv_O X M_X13_image _ jeV 81 [some (.ref (a0))] [] h21 _
  refine jv_aload_n (jv_dk t_X13_image (k := 39) rfl) rfl rfl (Or.inr ⟨_, rfl⟩) ?_
  refine jv_gR (jv_dk t_X13_image (k := 40) rfl) fl_X13_90 (fun v22 => ?_)
  refine jv_aload_n (jv_dk t_X13_image (k := 41) rfl) rfl rfl (Or.inr ⟨_, rfl⟩) ?_
  refine jv_gR (jv_dk t_X13_image (k := 42) rfl) fl_X13_41 (fun v23 => ?_)
  refine jv_callS (en' := jeV) (pv := jpV) (As := [.ref (v22), .ref (v23)]) (S := []) (jv_dk t_X13_image (k := 43) rfl) (fun _ => rfl) (Or.inl lk_X13_323) me_X13_copyTo ms_X13_copyTo ⟨by decide, by decide⟩ rfl rfl (Nat.le_of_ble_eq_true rfl) (P_X13_copyTo X v22 v23 h21) (fun _ h24 => ?_)
  show jv_O X M_X13_image _ jeV 92 [some (.ref (a0))] [] h24 _
  exact jv_vret (jv_dk t_X13_image (k := 44) rfl) rfl rfl
def t0_X13_restore : List (Nat × Instr × Nat) := [(0, .aload_n 0, 1), (1, .iconst 0, 1), (2, .putfield 96, 3), (5, .aload_n 0, 1), (6, .getfield 201, 3), (9, .ifCond .ne 5, 3), (12, .iconst 0, 1), (13, .ireturn, 1), (14, .aload_n 0, 1), (15, .aload_n 0, 1), (16, .getfield 403, 3), (19, .putfield 195, 3), (22, .aload_n 0, 1), (23, .aload_n 0, 1), (24, .getfield 406, 3), (27, .putfield 198, 3), (30, .aload_n 0, 1), (31, .getfield 37, 3), (34, .aload_n 0, 1), (35, .getfield 75, 3), (38, .invokestatic 323, 3), (41, .aload_n 0, 1), (42, .getfield 57, 3), (45, .aload_n 0, 1), (46, .getfield 78, 3), (49, .invokestatic 323, 3), (52, .aload_n 0, 1), (53, .getfield 66, 3), (56, .aload_n 0, 1), (57, .getfield 81, 3), (60, .invokestatic 323, 3), (63, .aload_n 0, 1), (64, .getfield 69, 3), (67, .aload_n 0, 1), (68, .getfield 84, 3), (71, .invokestatic 323, 3), (74, .aload_n 0, 1), (75, .getfield 72, 3), (78, .aload_n 0, 1), (79, .getfield 87, 3), (82, .invokestatic 323, 3), (85, .aload_n 0, 1), (86, .getfield 41, 3), (89, .aload_n 0, 1), (90, .getfield 90, 3), (93, .invokestatic 323, 3), (96, .iconst 1, 1), (97, .ireturn, 1)]
theorem t_X13_restore : jv_dec cX13_restore t0_X13_restore = true := by decide +kernel
def M_X13_restore : jm := (yX13_restore, cX13_restore, 1, (some .boolean), 1, 22, [])
def f_X13_restore (a0 : Nat) (h : jh) : Option (Int32 × jh) :=
  pV h a0 11 1 (.int (0)) fun h1 =>
  gI h1 a0 11 27 fun v2 =>
  (if ¬ v2 = 0 then
  gI h1 a0 11 28 fun v4 =>
  pV h1 a0 11 18 (.int (v4)) fun h5 =>
  gI h5 a0 11 29 fun v6 =>
  pV h5 a0 11 22 (.int (v6)) fun h7 =>
  gR h7 a0 11 2 fun v8 =>
  gR h7 a0 11 30 fun v9 =>
  bd (f_X13_copyTo v8 v9 h7) fun _ h10 =>
  gR h10 a0 11 19 fun v11 =>
  gR h10 a0 11 31 fun v12 =>
  bd (f_X13_copyTo v11 v12 h10) fun _ h13 =>
  gR h13 a0 11 23 fun v14 =>
  gR h13 a0 11 32 fun v15 =>
  bd (f_X13_copyTo v14 v15 h13) fun _ h16 =>
  gR h16 a0 11 24 fun v17 =>
  gR h16 a0 11 33 fun v18 =>
  bd (f_X13_copyTo v17 v18 h16) fun _ h19 =>
  gR h19 a0 11 25 fun v20 =>
  gR h19 a0 11 34 fun v21 =>
  bd (f_X13_copyTo v20 v21 h19) fun _ h22 =>
  gR h22 a0 11 3 fun v23 =>
  gR h22 a0 11 35 fun v24 =>
  bd (f_X13_copyTo v23 v24 h22) fun _ h25 =>
  some (1, h25)
  else
  some (0, h1))
theorem P_X13_restore (X : jx) (a0 : Nat) (h : jh) : jv_P X M_X13_restore jeI [.ref (a0)] h (f_X13_restore a0 h) := by
  refine jv_P.of (by decide) rfl (by simp [Value.category]) (Nat.le_of_ble_eq_true rfl) ?_
  show jv_O X M_X13_restore (h.1, h.2.1) jeI 0 [some (.ref (a0))] [] h (f_X13_restore a0 h)
  unfold f_X13_restore
  refine jv_aload_n (jv_dk t_X13_restore (k := 0) rfl) rfl rfl (Or.inr ⟨_, rfl⟩) ?_
  refine jv_iconst (v := 0) (jv_dk t_X13_restore (k := 1) rfl) (by decide) ?_
  refine jv_pV (jv_dk t_X13_restore (k := 2) rfl) fl_X13_96 kX13 (Or.inl rfl) rfl rfl rfl (fun h1 => ?_)
  refine jv_aload_n (jv_dk t_X13_restore (k := 3) rfl) rfl rfl (Or.inr ⟨_, rfl⟩) ?_
  refine jv_gI (jv_dk t_X13_restore (k := 4) rfl) fl_X13_201 (fun v2 => ?_)
  refine jv_if_ne (tgt := 14) (jv_dk t_X13_restore (k := 5) rfl) rfl (fun c3 => ?_) (fun c3 => ?_)
  · refine jv_aload_n (jv_dk t_X13_restore (k := 8) rfl) rfl rfl (Or.inr ⟨_, rfl⟩) ?_
    refine jv_aload_n (jv_dk t_X13_restore (k := 9) rfl) rfl rfl (Or.inr ⟨_, rfl⟩) ?_
    refine jv_gI (jv_dk t_X13_restore (k := 10) rfl) fl_X13_403 (fun v4 => ?_)
    refine jv_pV (jv_dk t_X13_restore (k := 11) rfl) fl_X13_195 kX13 (Or.inl rfl) rfl rfl rfl (fun h5 => ?_)
    refine jv_aload_n (jv_dk t_X13_restore (k := 12) rfl) rfl rfl (Or.inr ⟨_, rfl⟩) ?_
    refine jv_aload_n (jv_dk t_X13_restore (k := 13) rfl) rfl rfl (Or.inr ⟨_, rfl⟩) ?_
    refine jv_gI (jv_dk t_X13_restore (k := 14) rfl) fl_X13_406 (fun v6 => ?_)
    refine jv_pV (jv_dk t_X13_restore (k := 15) rfl) fl_X13_198 kX13 (Or.inl rfl) rfl rfl rfl (fun h7 => ?_)
    refine jv_aload_n (jv_dk t_X13_restore (k := 16) rfl) rfl rfl (Or.inr ⟨_, rfl⟩) ?_
    refine jv_gR (jv_dk t_X13_restore (k := 17) rfl) fl_X13_37 (fun v8 => ?_)
    refine jv_aload_n (jv_dk t_X13_restore (k := 18) rfl) rfl rfl (Or.inr ⟨_, rfl⟩) ?_
    refine jv_gR (jv_dk t_X13_restore (k := 19) rfl) fl_X13_75 (fun v9 => ?_)
    refine jv_callS (en' := jeV) (pv := jpV) (As := [.ref (v8), .ref (v9)]) (S := []) (jv_dk t_X13_restore (k := 20) rfl) (fun _ => rfl) (Or.inl lk_X13_323) me_X13_copyTo ms_X13_copyTo ⟨by decide, by decide⟩ rfl rfl (Nat.le_of_ble_eq_true rfl) (P_X13_copyTo X v8 v9 h7) (fun _ h10 => ?_)
    show jv_O X M_X13_restore _ jeI 41 [some (.ref (a0))] [] h10 _
    refine jv_aload_n (jv_dk t_X13_restore (k := 21) rfl) rfl rfl (Or.inr ⟨_, rfl⟩) ?_
    refine jv_gR (jv_dk t_X13_restore (k := 22) rfl) fl_X13_57 (fun v11 => ?_)
    refine jv_aload_n (jv_dk t_X13_restore (k := 23) rfl) rfl rfl (Or.inr ⟨_, rfl⟩) ?_
    refine jv_gR (jv_dk t_X13_restore (k := 24) rfl) fl_X13_78 (fun v12 => ?_)
    refine jv_callS (en' := jeV) (pv := jpV) (As := [.ref (v11), .ref (v12)]) (S := []) (jv_dk t_X13_restore (k := 25) rfl) (fun _ => rfl) (Or.inl lk_X13_323) me_X13_copyTo ms_X13_copyTo ⟨by decide, by decide⟩ rfl rfl (Nat.le_of_ble_eq_true rfl) (P_X13_copyTo X v11 v12 h10) (fun _ h13 => ?_)
    show jv_O X M_X13_restore _ jeI 52 [some (.ref (a0))] [] h13 _
    refine jv_aload_n (jv_dk t_X13_restore (k := 26) rfl) rfl rfl (Or.inr ⟨_, rfl⟩) ?_
    refine jv_gR (jv_dk t_X13_restore (k := 27) rfl) fl_X13_66 (fun v14 => ?_)
    refine jv_aload_n (jv_dk t_X13_restore (k := 28) rfl) rfl rfl (Or.inr ⟨_, rfl⟩) ?_
    refine jv_gR (jv_dk t_X13_restore (k := 29) rfl) fl_X13_81 (fun v15 => ?_)
    refine jv_callS (en' := jeV) (pv := jpV) (As := [.ref (v14), .ref (v15)]) (S := []) (jv_dk t_X13_restore (k := 30) rfl) (fun _ => rfl) (Or.inl lk_X13_323) me_X13_copyTo ms_X13_copyTo ⟨by decide, by decide⟩ rfl rfl (Nat.le_of_ble_eq_true rfl) (P_X13_copyTo X v14 v15 h13) (fun _ h16 => ?_)
    show jv_O X M_X13_restore _ jeI 63 [some (.ref (a0))] [] h16 _
    refine jv_aload_n (jv_dk t_X13_restore (k := 31) rfl) rfl rfl (Or.inr ⟨_, rfl⟩) ?_
    refine jv_gR (jv_dk t_X13_restore (k := 32) rfl) fl_X13_69 (fun v17 => ?_)
    refine jv_aload_n (jv_dk t_X13_restore (k := 33) rfl) rfl rfl (Or.inr ⟨_, rfl⟩) ?_
    refine jv_gR (jv_dk t_X13_restore (k := 34) rfl) fl_X13_84 (fun v18 => ?_)
    refine jv_callS (en' := jeV) (pv := jpV) (As := [.ref (v17), .ref (v18)]) (S := []) (jv_dk t_X13_restore (k := 35) rfl) (fun _ => rfl) (Or.inl lk_X13_323) me_X13_copyTo ms_X13_copyTo ⟨by decide, by decide⟩ rfl rfl (Nat.le_of_ble_eq_true rfl) (P_X13_copyTo X v17 v18 h16) (fun _ h19 => ?_)
    show jv_O X M_X13_restore _ jeI 74 [some (.ref (a0))] [] h19 _
    refine jv_aload_n (jv_dk t_X13_restore (k := 36) rfl) rfl rfl (Or.inr ⟨_, rfl⟩) ?_
    refine jv_gR (jv_dk t_X13_restore (k := 37) rfl) fl_X13_72 (fun v20 => ?_)
    refine jv_aload_n (jv_dk t_X13_restore (k := 38) rfl) rfl rfl (Or.inr ⟨_, rfl⟩) ?_
    refine jv_gR (jv_dk t_X13_restore (k := 39) rfl) fl_X13_87 (fun v21 => ?_)
    refine jv_callS (en' := jeV) (pv := jpV) (As := [.ref (v20), .ref (v21)]) (S := []) (jv_dk t_X13_restore (k := 40) rfl) (fun _ => rfl) (Or.inl lk_X13_323) me_X13_copyTo ms_X13_copyTo ⟨by decide, by decide⟩ rfl rfl (Nat.le_of_ble_eq_true rfl) (P_X13_copyTo X v20 v21 h19) (fun _ h22 => ?_)
    show jv_O X M_X13_restore _ jeI 85 [some (.ref (a0))] [] h22 _
    refine jv_aload_n (jv_dk t_X13_restore (k := 41) rfl) rfl rfl (Or.inr ⟨_, rfl⟩) ?_
    refine jv_gR (jv_dk t_X13_restore (k := 42) rfl) fl_X13_41 (fun v23 => ?_)
    refine jv_aload_n (jv_dk t_X13_restore (k := 43) rfl) rfl rfl (Or.inr ⟨_, rfl⟩) ?_
    refine jv_gR (jv_dk t_X13_restore (k := 44) rfl) fl_X13_90 (fun v24 => ?_)
    refine jv_callS (en' := jeV) (pv := jpV) (As := [.ref (v23), .ref (v24)]) (S := []) (jv_dk t_X13_restore (k := 45) rfl) (fun _ => rfl) (Or.inl lk_X13_323) me_X13_copyTo ms_X13_copyTo ⟨by decide, by decide⟩ rfl rfl (Nat.le_of_ble_eq_true rfl) (P_X13_copyTo X v23 v24 h22) (fun _ h25 => ?_)
    show jv_O X M_X13_restore _ jeI 96 [some (.ref (a0))] [] h25 _
    refine jv_iconst (v := 1) (jv_dk t_X13_restore (k := 46) rfl) (by decide) ?_
    exact jv_iret (ty := .boolean) (jv_dk t_X13_restore (k := 47) rfl) rfl rfl rfl
  · show jv_O _ _ _ _ 12 _ _ _ _
    refine jv_iconst (v := 0) (jv_dk t_X13_restore (k := 6) rfl) (by decide) ?_
    exact jv_iret (ty := .boolean) (jv_dk t_X13_restore (k := 7) rfl) rfl rfl rfl
def t0_L_spaces : List (Nat × Instr × Nat) := [(0, .aload_n 2, 1), (1, .iconst 0, 1), (2, .aload_n 0, 1), (3, .iload_n 1, 1), (4, .invokevirtual 7, 3), (7, .i2l, 1), (8, .lastore, 1), (9, .goto 6, 3), (12, .astore_n 3, 1), (13, .iconst 1, 1), (14, .ireturn, 1), (15, .iconst 0, 1), (16, .ireturn, 1)]
theorem t_L_spaces : jv_dec cL_spaces t0_L_spaces = true := by decide +kernel
def M_L_spaces : jm := (yL_spaces, cL_spaces, 4, (some .int), 11, 316, [(0, 9, 12, 13)])
theorem lk_L_7 : Cond.methodLink RL 7 M_X12_spaces.1 ∈ lw_tbl := (jv_at 940 (by decide +kernel))
set_option maxRecDepth 20000 in
theorem me_X12_spaces : jv_me M_X12_spaces 1 := ⟨(jv_in4 (List.mem_of_getElem? (i := 63) rfl)), (jv_at 161 (by decide +kernel)), ⟨by decide, by decide⟩, by decide +kernel⟩
theorem ca_IllegalArgumentException : Cond.castable "java/lang/IllegalArgumentException" "java/lang/IllegalArgumentException" ∈ lw_tbl := (jv_at 946 (by decide +kernel))
theorem cc_L_13 : Cond.classLink RL 13 "java/lang/IllegalArgumentException" ∈ lw_tbl := (jv_at 939 (by decide +kernel))
theorem mv_X12_spaces : jv_mv M_X12_spaces := ⟨(jv_at 941 (by decide +kernel)), (jv_at 942 (by decide +kernel))⟩
def f_L_spaces (a0 : Nat) (a1 : Int32) (a2 : Nat) (h : jh) : Option (Int32 × jh) :=
  cVC h a0 10 (f_X12_spaces a0 a1 h) (fun v1 h2 =>
  sL h2 a2 0 v1.toInt64 fun h3 =>
  some (0, h3)) (fun E h1 => if E = "java/lang/IllegalArgumentException" then
  some (1, h1)
  else none)
theorem P_L_spaces (X : jx) (a0 : Nat) (a1 : Int32) (a2 : Nat) (h : jh) : jv_PH X M_L_spaces jeI [.ref (a0), .int (a1), .ref (a2)] h (f_L_spaces a0 a1 a2 h) := by
  refine jv_PH.of (by decide) (by simp [Value.category]) (Nat.le_of_ble_eq_true rfl) ?_
  show jv_O X M_L_spaces (h.1, h.2.1) jeI 0 [some (.ref (a0)), some (.int (a1)), some (.ref (a2)), none] [] h (f_L_spaces a0 a1 a2 h)
  unfold f_L_spaces
  refine jv_aload_n (jv_dk t_L_spaces (k := 0) rfl) rfl rfl (Or.inr ⟨_, rfl⟩) ?_
  refine jv_iconst (v := 0) (jv_dk t_L_spaces (k := 1) rfl) (by decide) ?_
  refine jv_aload_n (jv_dk t_L_spaces (k := 2) rfl) rfl rfl (Or.inr ⟨_, rfl⟩) ?_
  refine jv_iload_n (jv_dk t_L_spaces (k := 3) rfl) rfl rfl ?_
  refine jv_callVC (en' := jeIX) (pv := jpI) (As := [.int (a1)]) (S := [.int (0), .ref (a2)]) (jv_dk t_L_spaces (k := 4) rfl) (fun _ => rfl) (fun _ => rfl) lk_L_7 me_X12_spaces mv_X12_spaces ⟨by decide, by decide⟩ rfl rfl rfl (Nat.le_of_ble_eq_true rfl) (P_X12_spaces X a0 a1 h) (fun v1 h2 => ?_) (fun E h1 => ?_)
  · show jv_O X M_L_spaces _ jeI 7 [some (.ref (a0)), some (.int (a1)), some (.ref (a2)), none] [.int (v1), .int (0), .ref (a2)] h2 _
    refine jv_i2l (jv_dk t_L_spaces (k := 5) rfl) ?_
    refine jv_lastore (jv_dk t_L_spaces (k := 6) rfl) (fun h3 => ?_)
    refine jv_goto (tgt := 15) (jv_dk t_L_spaces (k := 7) rfl) rfl ?_
    refine jv_iconst (v := 0) (jv_dk t_L_spaces (k := 11) rfl) (by decide) ?_
    exact jv_iret (ty := .int) (jv_dk t_L_spaces (k := 12) rfl) rfl rfl rfl
  · by_cases e0 : E = "java/lang/IllegalArgumentException"
    · subst e0
      rw [if_pos rfl]
      exact Or.inr ⟨"java/lang/IllegalArgumentException", [], [], ⟨0, 9, 12, 13⟩, rfl, by decide, by decide, cc_L_13, ca_IllegalArgumentException, (fun z hz => nomatch hz), fun q9 => by
        refine jv_astore_n (L' := [some (.ref (a0)), some (.int (a1)), some (.ref (a2)), some (.ref (q9))]) (jv_dk t_L_spaces (k := 8) rfl) rfl (Nat.le_of_ble_eq_true rfl) (Or.inr ⟨_, rfl⟩) rfl ?_
        refine jv_iconst (v := 1) (jv_dk t_L_spaces (k := 9) rfl) (by decide) ?_
        exact jv_iret (ty := .int) (jv_dk t_L_spaces (k := 10) rfl) rfl rfl rfl
      ⟩
    left
    rw [if_neg e0]
def t0_L_count : List (Nat × Instr × Nat) := [(0, .aload_n 2, 1), (1, .iconst 0, 1), (2, .aload_n 0, 1), (3, .iload_n 1, 1), (4, .invokevirtual 15, 3), (7, .i2l, 1), (8, .lastore, 1), (9, .goto 6, 3), (12, .astore_n 3, 1), (13, .iconst 1, 1), (14, .ireturn, 1), (15, .iconst 0, 1), (16, .ireturn, 1)]
theorem t_L_count : jv_dec cL_count t0_L_count = true := by decide +kernel
def M_L_count : jm := (yL_count, cL_count, 4, (some .int), 7, 122, [(0, 9, 12, 18)])
theorem lk_L_15 : Cond.methodLink RL 15 M_X12_count.1 ∈ lw_tbl := (jv_at 1102 (by decide +kernel))
set_option maxRecDepth 20000 in
theorem me_X12_count : jv_me M_X12_count 1 := ⟨(jv_in4 (List.mem_of_getElem? (i := 225) rfl)), (jv_at 161 (by decide +kernel)), ⟨by decide, by decide⟩, by decide +kernel⟩
theorem ca_NoSuchElementException : Cond.castable "java/util/NoSuchElementException" "java/util/NoSuchElementException" ∈ lw_tbl := (jv_at 1119 (by decide +kernel))
theorem cc_L_18 : Cond.classLink RL 18 "java/util/NoSuchElementException" ∈ lw_tbl := (jv_at 1101 (by decide +kernel))
theorem mv_X12_count : jv_mv M_X12_count := ⟨(jv_at 1103 (by decide +kernel)), (jv_at 1104 (by decide +kernel))⟩
def f_L_count (a0 : Nat) (a1 : Int32) (a2 : Nat) (h : jh) : Option (Int32 × jh) :=
  cVC h a0 10 (f_X12_count a0 a1 h) (fun v1 h2 =>
  sL h2 a2 0 v1.toInt64 fun h3 =>
  some (0, h3)) (fun E h1 => if E = "java/util/NoSuchElementException" then
  some (1, h1)
  else none)
theorem P_L_count (X : jx) (a0 : Nat) (a1 : Int32) (a2 : Nat) (h : jh) : jv_PH X M_L_count jeI [.ref (a0), .int (a1), .ref (a2)] h (f_L_count a0 a1 a2 h) := by
  refine jv_PH.of (by decide) (by simp [Value.category]) (Nat.le_of_ble_eq_true rfl) ?_
  show jv_O X M_L_count (h.1, h.2.1) jeI 0 [some (.ref (a0)), some (.int (a1)), some (.ref (a2)), none] [] h (f_L_count a0 a1 a2 h)
  unfold f_L_count
  refine jv_aload_n (jv_dk t_L_count (k := 0) rfl) rfl rfl (Or.inr ⟨_, rfl⟩) ?_
  refine jv_iconst (v := 0) (jv_dk t_L_count (k := 1) rfl) (by decide) ?_
  refine jv_aload_n (jv_dk t_L_count (k := 2) rfl) rfl rfl (Or.inr ⟨_, rfl⟩) ?_
  refine jv_iload_n (jv_dk t_L_count (k := 3) rfl) rfl rfl ?_
  refine jv_callVC (en' := jeIX) (pv := jpI) (As := [.int (a1)]) (S := [.int (0), .ref (a2)]) (jv_dk t_L_count (k := 4) rfl) (fun _ => rfl) (fun _ => rfl) lk_L_15 me_X12_count mv_X12_count ⟨by decide, by decide⟩ rfl rfl rfl (Nat.le_of_ble_eq_true rfl) (P_X12_count X a0 a1 h) (fun v1 h2 => ?_) (fun E h1 => ?_)
  · show jv_O X M_L_count _ jeI 7 [some (.ref (a0)), some (.int (a1)), some (.ref (a2)), none] [.int (v1), .int (0), .ref (a2)] h2 _
    refine jv_i2l (jv_dk t_L_count (k := 5) rfl) ?_
    refine jv_lastore (jv_dk t_L_count (k := 6) rfl) (fun h3 => ?_)
    refine jv_goto (tgt := 15) (jv_dk t_L_count (k := 7) rfl) rfl ?_
    refine jv_iconst (v := 0) (jv_dk t_L_count (k := 11) rfl) (by decide) ?_
    exact jv_iret (ty := .int) (jv_dk t_L_count (k := 12) rfl) rfl rfl rfl
  · by_cases e0 : E = "java/util/NoSuchElementException"
    · subst e0
      rw [if_pos rfl]
      exact Or.inr ⟨"java/util/NoSuchElementException", [], [], ⟨0, 9, 12, 18⟩, rfl, by decide, by decide, cc_L_18, ca_NoSuchElementException, (fun z hz => nomatch hz), fun q9 => by
        refine jv_astore_n (L' := [some (.ref (a0)), some (.int (a1)), some (.ref (a2)), some (.ref (q9))]) (jv_dk t_L_count (k := 8) rfl) rfl (Nat.le_of_ble_eq_true rfl) (Or.inr ⟨_, rfl⟩) rfl ?_
        refine jv_iconst (v := 1) (jv_dk t_L_count (k := 9) rfl) (by decide) ?_
        exact jv_iret (ty := .int) (jv_dk t_L_count (k := 10) rfl) rfl rfl rfl
      ⟩
    left
    rw [if_neg e0]
def t0_L_process : List (Nat × Instr × Nat) := [(0, .aload_n 3, 1), (1, .iconst 0, 1), (2, .aload_n 0, 1), (3, .iload_n 1, 1), (4, .iload_n 2, 1), (5, .invokevirtual 20, 3), (8, .i2l, 1), (9, .lastore, 1), (10, .goto 7, 3), (13, .astore 4, 2), (15, .iconst 1, 1), (16, .ireturn, 1), (17, .iconst 0, 1), (18, .ireturn, 1)]
theorem t_L_process : jv_dec cL_process t0_L_process = true := by decide +kernel
def M_L_process : jm := (yL_process, cL_process, 5, (some .int), 8, 145, [(0, 10, 13, 18)])
theorem lk_L_20 : Cond.methodLink RL 20 M_X12_process.1 ∈ lw_tbl := (jv_at 1135 (by decide +kernel))
set_option maxRecDepth 20000 in
theorem me_X12_process : jv_me M_X12_process 2 := ⟨(jv_in5 (List.mem_of_getElem? (i := 18) rfl)), (jv_at 161 (by decide +kernel)), ⟨by decide, by decide⟩, by decide +kernel⟩
theorem mv_X12_process : jv_mv M_X12_process := ⟨(jv_at 1136 (by decide +kernel)), (jv_at 1137 (by decide +kernel))⟩
def f_L_process (a0 : Nat) (a1 : Int32) (a2 : Int32) (a3 : Nat) (h : jh) : Option (Int32 × jh) :=
  cVC h a0 10 (f_X12_process a0 a1 a2 h) (fun v1 h2 =>
  sL h2 a3 0 v1.toInt64 fun h3 =>
  some (0, h3)) (fun E h1 => if E = "java/util/NoSuchElementException" then
  some (1, h1)
  else none)
theorem P_L_process (X : jx) (a0 : Nat) (a1 : Int32) (a2 : Int32) (a3 : Nat) (h : jh) : jv_PH X M_L_process jeI [.ref (a0), .int (a1), .int (a2), .ref (a3)] h (f_L_process a0 a1 a2 a3 h) := by
  refine jv_PH.of (by decide) (by simp [Value.category]) (Nat.le_of_ble_eq_true rfl) ?_
  show jv_O X M_L_process (h.1, h.2.1) jeI 0 [some (.ref (a0)), some (.int (a1)), some (.int (a2)), some (.ref (a3)), none] [] h (f_L_process a0 a1 a2 a3 h)
  unfold f_L_process
  refine jv_aload_n (jv_dk t_L_process (k := 0) rfl) rfl rfl (Or.inr ⟨_, rfl⟩) ?_
  refine jv_iconst (v := 0) (jv_dk t_L_process (k := 1) rfl) (by decide) ?_
  refine jv_aload_n (jv_dk t_L_process (k := 2) rfl) rfl rfl (Or.inr ⟨_, rfl⟩) ?_
  refine jv_iload_n (jv_dk t_L_process (k := 3) rfl) rfl rfl ?_
  refine jv_iload_n (jv_dk t_L_process (k := 4) rfl) rfl rfl ?_
  refine jv_callVC (en' := jeIX) (pv := jpI) (As := [.int (a1), .int (a2)]) (S := [.int (0), .ref (a3)]) (jv_dk t_L_process (k := 5) rfl) (fun _ => rfl) (fun _ => rfl) lk_L_20 me_X12_process mv_X12_process ⟨by decide, by decide⟩ rfl rfl rfl (Nat.le_of_ble_eq_true rfl) (P_X12_process X a0 a1 a2 h) (fun v1 h2 => ?_) (fun E h1 => ?_)
  · show jv_O X M_L_process _ jeI 8 [some (.ref (a0)), some (.int (a1)), some (.int (a2)), some (.ref (a3)), none] [.int (v1), .int (0), .ref (a3)] h2 _
    refine jv_i2l (jv_dk t_L_process (k := 6) rfl) ?_
    refine jv_lastore (jv_dk t_L_process (k := 7) rfl) (fun h3 => ?_)
    refine jv_goto (tgt := 17) (jv_dk t_L_process (k := 8) rfl) rfl ?_
    refine jv_iconst (v := 0) (jv_dk t_L_process (k := 12) rfl) (by decide) ?_
    exact jv_iret (ty := .int) (jv_dk t_L_process (k := 13) rfl) rfl rfl rfl
  · by_cases e0 : E = "java/util/NoSuchElementException"
    · subst e0
      rw [if_pos rfl]
      exact Or.inr ⟨"java/util/NoSuchElementException", [], [], ⟨0, 10, 13, 18⟩, rfl, by decide, by decide, cc_L_18, ca_NoSuchElementException, (fun z hz => nomatch hz), fun q9 => by
        refine jv_astore (L' := [some (.ref (a0)), some (.int (a1)), some (.int (a2)), some (.ref (a3)), some (.ref (q9))]) (jv_dk t_L_process (k := 9) rfl) (Nat.le_of_ble_eq_true rfl) (Or.inr ⟨_, rfl⟩) rfl ?_
        refine jv_iconst (v := 1) (jv_dk t_L_process (k := 10) rfl) (by decide) ?_
        exact jv_iret (ty := .int) (jv_dk t_L_process (k := 11) rfl) rfl rfl rfl
      ⟩
    left
    rw [if_neg e0]
def t0_L_space : List (Nat × Instr × Nat) := [(0, .aload 4, 2), (2, .iconst 0, 1), (3, .aload_n 0, 1), (4, .iload_n 1, 1), (5, .iload_n 2, 1), (6, .iload_n 3, 1), (7, .invokevirtual 24, 3), (10, .i2l, 1), (11, .lastore, 1), (12, .goto 7, 3), (15, .astore 5, 2), (17, .iconst 1, 1), (18, .ireturn, 1), (19, .iconst 0, 1), (20, .ireturn, 1)]
theorem t_L_space : jv_dec cL_space t0_L_space = true := by decide +kernel
def M_L_space : jm := (yL_space, cL_space, 6, (some .int), 7, 124, [(0, 12, 15, 18)])
theorem lk_L_24 : Cond.methodLink RL 24 M_X12_space.1 ∈ lw_tbl := (jv_at 1152 (by decide +kernel))
set_option maxRecDepth 20000 in
theorem me_X12_space : jv_me M_X12_space 3 := ⟨(jv_in5 (List.mem_of_getElem? (i := 35) rfl)), (jv_at 161 (by decide +kernel)), ⟨by decide, by decide⟩, by decide +kernel⟩
theorem mv_X12_space : jv_mv M_X12_space := ⟨(jv_at 1153 (by decide +kernel)), (jv_at 1154 (by decide +kernel))⟩
def f_L_space (a0 : Nat) (a1 : Int32) (a2 : Int32) (a3 : Int32) (a4 : Nat) (h : jh) : Option (Int32 × jh) :=
  cVC h a0 10 (f_X12_space a0 a1 a2 a3 h) (fun v1 h2 =>
  sL h2 a4 0 v1.toInt64 fun h3 =>
  some (0, h3)) (fun E h1 => if E = "java/util/NoSuchElementException" then
  some (1, h1)
  else none)
theorem P_L_space (X : jx) (a0 : Nat) (a1 : Int32) (a2 : Int32) (a3 : Int32) (a4 : Nat) (h : jh) : jv_PH X M_L_space jeI [.ref (a0), .int (a1), .int (a2), .int (a3), .ref (a4)] h (f_L_space a0 a1 a2 a3 a4 h) := by
  refine jv_PH.of (by decide) (by simp [Value.category]) (Nat.le_of_ble_eq_true rfl) ?_
  show jv_O X M_L_space (h.1, h.2.1) jeI 0 [some (.ref (a0)), some (.int (a1)), some (.int (a2)), some (.int (a3)), some (.ref (a4)), none] [] h (f_L_space a0 a1 a2 a3 a4 h)
  unfold f_L_space
  refine jv_aload (jv_dk t_L_space (k := 0) rfl) rfl (Or.inr ⟨_, rfl⟩) ?_
  refine jv_iconst (v := 0) (jv_dk t_L_space (k := 1) rfl) (by decide) ?_
  refine jv_aload_n (jv_dk t_L_space (k := 2) rfl) rfl rfl (Or.inr ⟨_, rfl⟩) ?_
  refine jv_iload_n (jv_dk t_L_space (k := 3) rfl) rfl rfl ?_
  refine jv_iload_n (jv_dk t_L_space (k := 4) rfl) rfl rfl ?_
  refine jv_iload_n (jv_dk t_L_space (k := 5) rfl) rfl rfl ?_
  refine jv_callVC (en' := jeIX) (pv := jpI) (As := [.int (a1), .int (a2), .int (a3)]) (S := [.int (0), .ref (a4)]) (jv_dk t_L_space (k := 6) rfl) (fun _ => rfl) (fun _ => rfl) lk_L_24 me_X12_space mv_X12_space ⟨by decide, by decide⟩ rfl rfl rfl (Nat.le_of_ble_eq_true rfl) (P_X12_space X a0 a1 a2 a3 h) (fun v1 h2 => ?_) (fun E h1 => ?_)
  · show jv_O X M_L_space _ jeI 10 [some (.ref (a0)), some (.int (a1)), some (.int (a2)), some (.int (a3)), some (.ref (a4)), none] [.int (v1), .int (0), .ref (a4)] h2 _
    refine jv_i2l (jv_dk t_L_space (k := 7) rfl) ?_
    refine jv_lastore (jv_dk t_L_space (k := 8) rfl) (fun h3 => ?_)
    refine jv_goto (tgt := 19) (jv_dk t_L_space (k := 9) rfl) rfl ?_
    refine jv_iconst (v := 0) (jv_dk t_L_space (k := 13) rfl) (by decide) ?_
    exact jv_iret (ty := .int) (jv_dk t_L_space (k := 14) rfl) rfl rfl rfl
  · by_cases e0 : E = "java/util/NoSuchElementException"
    · subst e0
      rw [if_pos rfl]
      exact Or.inr ⟨"java/util/NoSuchElementException", [], [], ⟨0, 12, 15, 18⟩, rfl, by decide, by decide, cc_L_18, ca_NoSuchElementException, (fun z hz => nomatch hz), fun q9 => by
        refine jv_astore (L' := [some (.ref (a0)), some (.int (a1)), some (.int (a2)), some (.int (a3)), some (.ref (a4)), some (.ref (q9))]) (jv_dk t_L_space (k := 10) rfl) (Nat.le_of_ble_eq_true rfl) (Or.inr ⟨_, rfl⟩) rfl ?_
        refine jv_iconst (v := 1) (jv_dk t_L_space (k := 11) rfl) (by decide) ?_
        exact jv_iret (ty := .int) (jv_dk t_L_space (k := 12) rfl) rfl rfl rfl
      ⟩
    left
    rw [if_neg e0]
def t0_L_number : List (Nat × Instr × Nat) := [(0, .aload_n 3, 1), (1, .iconst 0, 1), (2, .aload_n 0, 1), (3, .iload_n 1, 1), (4, .iload_n 2, 1), (5, .invokevirtual 28, 3), (8, .i2l, 1), (9, .lastore, 1), (10, .goto 7, 3), (13, .astore 4, 2), (15, .iconst 1, 1), (16, .ireturn, 1), (17, .iconst 0, 1), (18, .ireturn, 1)]
theorem t_L_number : jv_dec cL_number t0_L_number = true := by decide +kernel
def M_L_number : jm := (yL_number, cL_number, 5, (some .int), 8, 146, [(0, 10, 13, 18)])
theorem lk_L_28 : Cond.methodLink RL 28 M_X12_number.1 ∈ lw_tbl := (jv_at 1183 (by decide +kernel))
set_option maxRecDepth 20000 in
theorem me_X12_number : jv_me M_X12_number 2 := ⟨(jv_in5 (List.mem_of_getElem? (i := 66) rfl)), (jv_at 161 (by decide +kernel)), ⟨by decide, by decide⟩, by decide +kernel⟩
theorem mv_X12_number : jv_mv M_X12_number := ⟨(jv_at 1184 (by decide +kernel)), (jv_at 1185 (by decide +kernel))⟩
def f_L_number (a0 : Nat) (a1 : Int32) (a2 : Int32) (a3 : Nat) (h : jh) : Option (Int32 × jh) :=
  cVC h a0 10 (f_X12_number a0 a1 a2 h) (fun v1 h2 =>
  sL h2 a3 0 v1.toInt64 fun h3 =>
  some (0, h3)) (fun E h1 => if E = "java/util/NoSuchElementException" then
  some (1, h1)
  else none)
theorem P_L_number (X : jx) (a0 : Nat) (a1 : Int32) (a2 : Int32) (a3 : Nat) (h : jh) : jv_PH X M_L_number jeI [.ref (a0), .int (a1), .int (a2), .ref (a3)] h (f_L_number a0 a1 a2 a3 h) := by
  refine jv_PH.of (by decide) (by simp [Value.category]) (Nat.le_of_ble_eq_true rfl) ?_
  show jv_O X M_L_number (h.1, h.2.1) jeI 0 [some (.ref (a0)), some (.int (a1)), some (.int (a2)), some (.ref (a3)), none] [] h (f_L_number a0 a1 a2 a3 h)
  unfold f_L_number
  refine jv_aload_n (jv_dk t_L_number (k := 0) rfl) rfl rfl (Or.inr ⟨_, rfl⟩) ?_
  refine jv_iconst (v := 0) (jv_dk t_L_number (k := 1) rfl) (by decide) ?_
  refine jv_aload_n (jv_dk t_L_number (k := 2) rfl) rfl rfl (Or.inr ⟨_, rfl⟩) ?_
  refine jv_iload_n (jv_dk t_L_number (k := 3) rfl) rfl rfl ?_
  refine jv_iload_n (jv_dk t_L_number (k := 4) rfl) rfl rfl ?_
  refine jv_callVC (en' := jeIX) (pv := jpI) (As := [.int (a1), .int (a2)]) (S := [.int (0), .ref (a3)]) (jv_dk t_L_number (k := 5) rfl) (fun _ => rfl) (fun _ => rfl) lk_L_28 me_X12_number mv_X12_number ⟨by decide, by decide⟩ rfl rfl rfl (Nat.le_of_ble_eq_true rfl) (P_X12_number X a0 a1 a2 h) (fun v1 h2 => ?_) (fun E h1 => ?_)
  · show jv_O X M_L_number _ jeI 8 [some (.ref (a0)), some (.int (a1)), some (.int (a2)), some (.ref (a3)), none] [.int (v1), .int (0), .ref (a3)] h2 _
    refine jv_i2l (jv_dk t_L_number (k := 6) rfl) ?_
    refine jv_lastore (jv_dk t_L_number (k := 7) rfl) (fun h3 => ?_)
    refine jv_goto (tgt := 17) (jv_dk t_L_number (k := 8) rfl) rfl ?_
    refine jv_iconst (v := 0) (jv_dk t_L_number (k := 12) rfl) (by decide) ?_
    exact jv_iret (ty := .int) (jv_dk t_L_number (k := 13) rfl) rfl rfl rfl
  · by_cases e0 : E = "java/util/NoSuchElementException"
    · subst e0
      rw [if_pos rfl]
      exact Or.inr ⟨"java/util/NoSuchElementException", [], [], ⟨0, 10, 13, 18⟩, rfl, by decide, by decide, cc_L_18, ca_NoSuchElementException, (fun z hz => nomatch hz), fun q9 => by
        refine jv_astore (L' := [some (.ref (a0)), some (.int (a1)), some (.int (a2)), some (.ref (a3)), some (.ref (q9))]) (jv_dk t_L_number (k := 9) rfl) (Nat.le_of_ble_eq_true rfl) (Or.inr ⟨_, rfl⟩) rfl ?_
        refine jv_iconst (v := 1) (jv_dk t_L_number (k := 10) rfl) (by decide) ?_
        exact jv_iret (ty := .int) (jv_dk t_L_number (k := 11) rfl) rfl rfl rfl
      ⟩
    left
    rw [if_neg e0]
def t0_L_listed : List (Nat × Instr × Nat) := [(0, .aload_n 3, 1), (1, .iconst 0, 1), (2, .aload_n 0, 1), (3, .iload_n 1, 1), (4, .iload_n 2, 1), (5, .invokevirtual 31, 3), (8, .i2l, 1), (9, .lastore, 1), (10, .goto 7, 3), (13, .astore 4, 2), (15, .iconst 1, 1), (16, .ireturn, 1), (17, .iconst 0, 1), (18, .ireturn, 1)]
theorem t_L_listed : jv_dec cL_listed t0_L_listed = true := by decide +kernel
def M_L_listed : jm := (yL_listed, cL_listed, 5, (some .int), 8, 148, [(0, 10, 13, 18)])
theorem lk_L_31 : Cond.methodLink RL 31 M_X12_listed.1 ∈ lw_tbl := (jv_at 1194 (by decide +kernel))
set_option maxRecDepth 20000 in
theorem me_X12_listed : jv_me M_X12_listed 2 := ⟨(jv_in5 (List.mem_of_getElem? (i := 77) rfl)), (jv_at 161 (by decide +kernel)), ⟨by decide, by decide⟩, by decide +kernel⟩
theorem mv_X12_listed : jv_mv M_X12_listed := ⟨(jv_at 1195 (by decide +kernel)), (jv_at 1196 (by decide +kernel))⟩
def f_L_listed (a0 : Nat) (a1 : Int32) (a2 : Int32) (a3 : Nat) (h : jh) : Option (Int32 × jh) :=
  cVC h a0 10 (f_X12_listed a0 a1 a2 h) (fun v1 h2 =>
  sL h2 a3 0 v1.toInt64 fun h3 =>
  some (0, h3)) (fun E h1 => if E = "java/util/NoSuchElementException" then
  some (1, h1)
  else none)
theorem P_L_listed (X : jx) (a0 : Nat) (a1 : Int32) (a2 : Int32) (a3 : Nat) (h : jh) : jv_PH X M_L_listed jeI [.ref (a0), .int (a1), .int (a2), .ref (a3)] h (f_L_listed a0 a1 a2 a3 h) := by
  refine jv_PH.of (by decide) (by simp [Value.category]) (Nat.le_of_ble_eq_true rfl) ?_
  show jv_O X M_L_listed (h.1, h.2.1) jeI 0 [some (.ref (a0)), some (.int (a1)), some (.int (a2)), some (.ref (a3)), none] [] h (f_L_listed a0 a1 a2 a3 h)
  unfold f_L_listed
  refine jv_aload_n (jv_dk t_L_listed (k := 0) rfl) rfl rfl (Or.inr ⟨_, rfl⟩) ?_
  refine jv_iconst (v := 0) (jv_dk t_L_listed (k := 1) rfl) (by decide) ?_
  refine jv_aload_n (jv_dk t_L_listed (k := 2) rfl) rfl rfl (Or.inr ⟨_, rfl⟩) ?_
  refine jv_iload_n (jv_dk t_L_listed (k := 3) rfl) rfl rfl ?_
  refine jv_iload_n (jv_dk t_L_listed (k := 4) rfl) rfl rfl ?_
  refine jv_callVC (en' := jeIX) (pv := jpI) (As := [.int (a1), .int (a2)]) (S := [.int (0), .ref (a3)]) (jv_dk t_L_listed (k := 5) rfl) (fun _ => rfl) (fun _ => rfl) lk_L_31 me_X12_listed mv_X12_listed ⟨by decide, by decide⟩ rfl rfl rfl (Nat.le_of_ble_eq_true rfl) (P_X12_listed X a0 a1 a2 h) (fun v1 h2 => ?_) (fun E h1 => ?_)
  · show jv_O X M_L_listed _ jeI 8 [some (.ref (a0)), some (.int (a1)), some (.int (a2)), some (.ref (a3)), none] [.int (v1), .int (0), .ref (a3)] h2 _
    refine jv_i2l (jv_dk t_L_listed (k := 6) rfl) ?_
    refine jv_lastore (jv_dk t_L_listed (k := 7) rfl) (fun h3 => ?_)
    refine jv_goto (tgt := 17) (jv_dk t_L_listed (k := 8) rfl) rfl ?_
    refine jv_iconst (v := 0) (jv_dk t_L_listed (k := 12) rfl) (by decide) ?_
    exact jv_iret (ty := .int) (jv_dk t_L_listed (k := 13) rfl) rfl rfl rfl
  · by_cases e0 : E = "java/util/NoSuchElementException"
    · subst e0
      rw [if_pos rfl]
      exact Or.inr ⟨"java/util/NoSuchElementException", [], [], ⟨0, 10, 13, 18⟩, rfl, by decide, by decide, cc_L_18, ca_NoSuchElementException, (fun z hz => nomatch hz), fun q9 => by
        refine jv_astore (L' := [some (.ref (a0)), some (.int (a1)), some (.int (a2)), some (.ref (a3)), some (.ref (q9))]) (jv_dk t_L_listed (k := 9) rfl) (Nat.le_of_ble_eq_true rfl) (Or.inr ⟨_, rfl⟩) rfl ?_
        refine jv_iconst (v := 1) (jv_dk t_L_listed (k := 10) rfl) (by decide) ?_
        exact jv_iret (ty := .int) (jv_dk t_L_listed (k := 11) rfl) rfl rfl rfl
      ⟩
    left
    rw [if_neg e0]
def t0_L_inside : List (Nat × Instr × Nat) := [(0, .aload_n 3, 1), (1, .iconst 0, 1), (2, .aload_n 0, 1), (3, .iload_n 1, 1), (4, .iload_n 2, 1), (5, .invokevirtual 34, 3), (8, .i2l, 1), (9, .lastore, 1), (10, .goto 11, 3), (13, .astore 4, 2), (15, .iconst 1, 1), (16, .ireturn, 1), (17, .astore 4, 2), (19, .iconst 2, 1), (20, .ireturn, 1), (21, .iconst 0, 1), (22, .ireturn, 1)]
theorem t_L_inside : jv_dec cL_inside t0_L_inside = true := by decide +kernel
def M_L_inside : jm := (yL_inside, cL_inside, 5, (some .int), 8, 145, [(0, 10, 13, 18), (0, 10, 17, 13)])
theorem lk_L_34 : Cond.methodLink RL 34 M_X12_inside.1 ∈ lw_tbl := (jv_at 1202 (by decide +kernel))
set_option maxRecDepth 20000 in
theorem me_X12_inside : jv_me M_X12_inside 2 := ⟨(jv_in5 (List.mem_of_getElem? (i := 85) rfl)), (jv_at 161 (by decide +kernel)), ⟨by decide, by decide⟩, by decide +kernel⟩
theorem mv_X12_inside : jv_mv M_X12_inside := ⟨(jv_at 1203 (by decide +kernel)), (jv_at 1204 (by decide +kernel))⟩
def f_L_inside (a0 : Nat) (a1 : Int32) (a2 : Int32) (a3 : Nat) (h : jh) : Option (Int32 × jh) :=
  cVC h a0 10 (f_X12_inside a0 a1 a2 h) (fun v1 h2 =>
  sL h2 a3 0 v1.toInt64 fun h3 =>
  some (0, h3)) (fun E h1 => if E = "java/util/NoSuchElementException" then
  some (1, h1)
  else if E = "java/lang/IllegalArgumentException" then
  some (2, h1)
  else none)
theorem P_L_inside (X : jx) (a0 : Nat) (a1 : Int32) (a2 : Int32) (a3 : Nat) (h : jh) : jv_PH X M_L_inside jeI [.ref (a0), .int (a1), .int (a2), .ref (a3)] h (f_L_inside a0 a1 a2 a3 h) := by
  refine jv_PH.of (by decide) (by simp [Value.category]) (Nat.le_of_ble_eq_true rfl) ?_
  show jv_O X M_L_inside (h.1, h.2.1) jeI 0 [some (.ref (a0)), some (.int (a1)), some (.int (a2)), some (.ref (a3)), none] [] h (f_L_inside a0 a1 a2 a3 h)
  unfold f_L_inside
  refine jv_aload_n (jv_dk t_L_inside (k := 0) rfl) rfl rfl (Or.inr ⟨_, rfl⟩) ?_
  refine jv_iconst (v := 0) (jv_dk t_L_inside (k := 1) rfl) (by decide) ?_
  refine jv_aload_n (jv_dk t_L_inside (k := 2) rfl) rfl rfl (Or.inr ⟨_, rfl⟩) ?_
  refine jv_iload_n (jv_dk t_L_inside (k := 3) rfl) rfl rfl ?_
  refine jv_iload_n (jv_dk t_L_inside (k := 4) rfl) rfl rfl ?_
  refine jv_callVC (en' := jeIX) (pv := jpI) (As := [.int (a1), .int (a2)]) (S := [.int (0), .ref (a3)]) (jv_dk t_L_inside (k := 5) rfl) (fun _ => rfl) (fun _ => rfl) lk_L_34 me_X12_inside mv_X12_inside ⟨by decide, by decide⟩ rfl rfl rfl (Nat.le_of_ble_eq_true rfl) (P_X12_inside X a0 a1 a2 h) (fun v1 h2 => ?_) (fun E h1 => ?_)
  · show jv_O X M_L_inside _ jeI 8 [some (.ref (a0)), some (.int (a1)), some (.int (a2)), some (.ref (a3)), none] [.int (v1), .int (0), .ref (a3)] h2 _
    refine jv_i2l (jv_dk t_L_inside (k := 6) rfl) ?_
    refine jv_lastore (jv_dk t_L_inside (k := 7) rfl) (fun h3 => ?_)
    refine jv_goto (tgt := 21) (jv_dk t_L_inside (k := 8) rfl) rfl ?_
    refine jv_iconst (v := 0) (jv_dk t_L_inside (k := 15) rfl) (by decide) ?_
    exact jv_iret (ty := .int) (jv_dk t_L_inside (k := 16) rfl) rfl rfl rfl
  · by_cases e0 : E = "java/util/NoSuchElementException"
    · subst e0
      rw [if_pos rfl]
      exact Or.inr ⟨"java/util/NoSuchElementException", [], [⟨0, 10, 17, 13⟩], ⟨0, 10, 13, 18⟩, rfl, by decide, by decide, cc_L_18, ca_NoSuchElementException, (fun z hz => nomatch hz), fun q9 => by
        refine jv_astore (L' := [some (.ref (a0)), some (.int (a1)), some (.int (a2)), some (.ref (a3)), some (.ref (q9))]) (jv_dk t_L_inside (k := 9) rfl) (Nat.le_of_ble_eq_true rfl) (Or.inr ⟨_, rfl⟩) rfl ?_
        refine jv_iconst (v := 1) (jv_dk t_L_inside (k := 10) rfl) (by decide) ?_
        exact jv_iret (ty := .int) (jv_dk t_L_inside (k := 11) rfl) rfl rfl rfl
      ⟩
    by_cases e1 : E = "java/lang/IllegalArgumentException"
    · subst e1
      rw [if_neg (by decide)]
      rw [if_pos rfl]
      exact Or.inr ⟨"java/lang/IllegalArgumentException", [⟨0, 10, 13, 18⟩], [], ⟨0, 10, 17, 13⟩, rfl, by decide, by decide, cc_L_13, ca_IllegalArgumentException, (fun z hz => by rw [List.mem_singleton.mp hz]; exact Or.inr ⟨by decide, "java/util/NoSuchElementException", cc_L_18, fun U hK => hK.2.2.2.2.2.2.2.2.2.2.2⟩), fun q9 => by
        refine jv_astore (L' := [some (.ref (a0)), some (.int (a1)), some (.int (a2)), some (.ref (a3)), some (.ref (q9))]) (jv_dk t_L_inside (k := 12) rfl) (Nat.le_of_ble_eq_true rfl) (Or.inr ⟨_, rfl⟩) rfl ?_
        refine jv_iconst (v := 2) (jv_dk t_L_inside (k := 13) rfl) (by decide) ?_
        exact jv_iret (ty := .int) (jv_dk t_L_inside (k := 14) rfl) rfl rfl rfl
      ⟩
    left
    rw [if_neg e0, if_neg e1]
def t0_L_outside : List (Nat × Instr × Nat) := [(0, .aload_n 3, 1), (1, .iconst 0, 1), (2, .aload_n 0, 1), (3, .iload_n 1, 1), (4, .iload_n 2, 1), (5, .invokevirtual 37, 3), (8, .i2l, 1), (9, .lastore, 1), (10, .goto 11, 3), (13, .astore 4, 2), (15, .iconst 1, 1), (16, .ireturn, 1), (17, .astore 4, 2), (19, .iconst 2, 1), (20, .ireturn, 1), (21, .iconst 0, 1), (22, .ireturn, 1)]
theorem t_L_outside : jv_dec cL_outside t0_L_outside = true := by decide +kernel
def M_L_outside : jm := (yL_outside, cL_outside, 5, (some .int), 8, 145, [(0, 10, 13, 18), (0, 10, 17, 13)])
theorem lk_L_37 : Cond.methodLink RL 37 M_X12_outside.1 ∈ lw_tbl := (jv_at 1213 (by decide +kernel))
set_option maxRecDepth 20000 in
theorem me_X12_outside : jv_me M_X12_outside 2 := ⟨(jv_in5 (List.mem_of_getElem? (i := 96) rfl)), (jv_at 161 (by decide +kernel)), ⟨by decide, by decide⟩, by decide +kernel⟩
theorem mv_X12_outside : jv_mv M_X12_outside := ⟨(jv_at 1214 (by decide +kernel)), (jv_at 1215 (by decide +kernel))⟩
def f_L_outside (a0 : Nat) (a1 : Int32) (a2 : Int32) (a3 : Nat) (h : jh) : Option (Int32 × jh) :=
  cVC h a0 10 (f_X12_outside a0 a1 a2 h) (fun v1 h2 =>
  sL h2 a3 0 v1.toInt64 fun h3 =>
  some (0, h3)) (fun E h1 => if E = "java/util/NoSuchElementException" then
  some (1, h1)
  else if E = "java/lang/IllegalArgumentException" then
  some (2, h1)
  else none)
theorem P_L_outside (X : jx) (a0 : Nat) (a1 : Int32) (a2 : Int32) (a3 : Nat) (h : jh) : jv_PH X M_L_outside jeI [.ref (a0), .int (a1), .int (a2), .ref (a3)] h (f_L_outside a0 a1 a2 a3 h) := by
  refine jv_PH.of (by decide) (by simp [Value.category]) (Nat.le_of_ble_eq_true rfl) ?_
  show jv_O X M_L_outside (h.1, h.2.1) jeI 0 [some (.ref (a0)), some (.int (a1)), some (.int (a2)), some (.ref (a3)), none] [] h (f_L_outside a0 a1 a2 a3 h)
  unfold f_L_outside
  refine jv_aload_n (jv_dk t_L_outside (k := 0) rfl) rfl rfl (Or.inr ⟨_, rfl⟩) ?_
  refine jv_iconst (v := 0) (jv_dk t_L_outside (k := 1) rfl) (by decide) ?_
  refine jv_aload_n (jv_dk t_L_outside (k := 2) rfl) rfl rfl (Or.inr ⟨_, rfl⟩) ?_
  refine jv_iload_n (jv_dk t_L_outside (k := 3) rfl) rfl rfl ?_
  refine jv_iload_n (jv_dk t_L_outside (k := 4) rfl) rfl rfl ?_
  refine jv_callVC (en' := jeIX) (pv := jpI) (As := [.int (a1), .int (a2)]) (S := [.int (0), .ref (a3)]) (jv_dk t_L_outside (k := 5) rfl) (fun _ => rfl) (fun _ => rfl) lk_L_37 me_X12_outside mv_X12_outside ⟨by decide, by decide⟩ rfl rfl rfl (Nat.le_of_ble_eq_true rfl) (P_X12_outside X a0 a1 a2 h) (fun v1 h2 => ?_) (fun E h1 => ?_)
  · show jv_O X M_L_outside _ jeI 8 [some (.ref (a0)), some (.int (a1)), some (.int (a2)), some (.ref (a3)), none] [.int (v1), .int (0), .ref (a3)] h2 _
    refine jv_i2l (jv_dk t_L_outside (k := 6) rfl) ?_
    refine jv_lastore (jv_dk t_L_outside (k := 7) rfl) (fun h3 => ?_)
    refine jv_goto (tgt := 21) (jv_dk t_L_outside (k := 8) rfl) rfl ?_
    refine jv_iconst (v := 0) (jv_dk t_L_outside (k := 15) rfl) (by decide) ?_
    exact jv_iret (ty := .int) (jv_dk t_L_outside (k := 16) rfl) rfl rfl rfl
  · by_cases e0 : E = "java/util/NoSuchElementException"
    · subst e0
      rw [if_pos rfl]
      exact Or.inr ⟨"java/util/NoSuchElementException", [], [⟨0, 10, 17, 13⟩], ⟨0, 10, 13, 18⟩, rfl, by decide, by decide, cc_L_18, ca_NoSuchElementException, (fun z hz => nomatch hz), fun q9 => by
        refine jv_astore (L' := [some (.ref (a0)), some (.int (a1)), some (.int (a2)), some (.ref (a3)), some (.ref (q9))]) (jv_dk t_L_outside (k := 9) rfl) (Nat.le_of_ble_eq_true rfl) (Or.inr ⟨_, rfl⟩) rfl ?_
        refine jv_iconst (v := 1) (jv_dk t_L_outside (k := 10) rfl) (by decide) ?_
        exact jv_iret (ty := .int) (jv_dk t_L_outside (k := 11) rfl) rfl rfl rfl
      ⟩
    by_cases e1 : E = "java/lang/IllegalArgumentException"
    · subst e1
      rw [if_neg (by decide)]
      rw [if_pos rfl]
      exact Or.inr ⟨"java/lang/IllegalArgumentException", [⟨0, 10, 13, 18⟩], [], ⟨0, 10, 17, 13⟩, rfl, by decide, by decide, cc_L_13, ca_IllegalArgumentException, (fun z hz => by rw [List.mem_singleton.mp hz]; exact Or.inr ⟨by decide, "java/util/NoSuchElementException", cc_L_18, fun U hK => hK.2.2.2.2.2.2.2.2.2.2.2⟩), fun q9 => by
        refine jv_astore (L' := [some (.ref (a0)), some (.int (a1)), some (.int (a2)), some (.ref (a3)), some (.ref (q9))]) (jv_dk t_L_outside (k := 12) rfl) (Nat.le_of_ble_eq_true rfl) (Or.inr ⟨_, rfl⟩) rfl ?_
        refine jv_iconst (v := 2) (jv_dk t_L_outside (k := 13) rfl) (by decide) ?_
        exact jv_iret (ty := .int) (jv_dk t_L_outside (k := 14) rfl) rfl rfl rfl
      ⟩
    left
    rw [if_neg e0, if_neg e1]
def t0_L_range : List (Nat × Instr × Nat) := [(0, .aload 4, 2), (2, .iconst 0, 1), (3, .aload_n 0, 1), (4, .iload_n 1, 1), (5, .iload_n 2, 1), (6, .iload_n 3, 1), (7, .invokevirtual 40, 3), (10, .i2l, 1), (11, .lastore, 1), (12, .goto 7, 3), (15, .astore 5, 2), (17, .iconst 1, 1), (18, .ireturn, 1), (19, .iconst 0, 1), (20, .ireturn, 1)]
theorem t_L_range : jv_dec cL_range t0_L_range = true := by decide +kernel
def M_L_range : jm := (yL_range, cL_range, 6, (some .int), 8, 148, [(0, 12, 15, 18)])
theorem lk_L_40 : Cond.methodLink RL 40 M_X12_range.1 ∈ lw_tbl := (jv_at 1221 (by decide +kernel))
set_option maxRecDepth 20000 in
theorem me_X12_range : jv_me M_X12_range 3 := ⟨(jv_in5 (List.mem_of_getElem? (i := 104) rfl)), (jv_at 161 (by decide +kernel)), ⟨by decide, by decide⟩, by decide +kernel⟩
theorem mv_X12_range : jv_mv M_X12_range := ⟨(jv_at 1222 (by decide +kernel)), (jv_at 1223 (by decide +kernel))⟩
def f_L_range (a0 : Nat) (a1 : Int32) (a2 : Int32) (a3 : Int32) (a4 : Nat) (h : jh) : Option (Int32 × jh) :=
  cVC h a0 10 (f_X12_range a0 a1 a2 a3 h) (fun v1 h2 =>
  sL h2 a4 0 v1.toInt64 fun h3 =>
  some (0, h3)) (fun E h1 => if E = "java/util/NoSuchElementException" then
  some (1, h1)
  else none)
theorem P_L_range (X : jx) (a0 : Nat) (a1 : Int32) (a2 : Int32) (a3 : Int32) (a4 : Nat) (h : jh) : jv_PH X M_L_range jeI [.ref (a0), .int (a1), .int (a2), .int (a3), .ref (a4)] h (f_L_range a0 a1 a2 a3 a4 h) := by
  refine jv_PH.of (by decide) (by simp [Value.category]) (Nat.le_of_ble_eq_true rfl) ?_
  show jv_O X M_L_range (h.1, h.2.1) jeI 0 [some (.ref (a0)), some (.int (a1)), some (.int (a2)), some (.int (a3)), some (.ref (a4)), none] [] h (f_L_range a0 a1 a2 a3 a4 h)
  unfold f_L_range
  refine jv_aload (jv_dk t_L_range (k := 0) rfl) rfl (Or.inr ⟨_, rfl⟩) ?_
  refine jv_iconst (v := 0) (jv_dk t_L_range (k := 1) rfl) (by decide) ?_
  refine jv_aload_n (jv_dk t_L_range (k := 2) rfl) rfl rfl (Or.inr ⟨_, rfl⟩) ?_
  refine jv_iload_n (jv_dk t_L_range (k := 3) rfl) rfl rfl ?_
  refine jv_iload_n (jv_dk t_L_range (k := 4) rfl) rfl rfl ?_
  refine jv_iload_n (jv_dk t_L_range (k := 5) rfl) rfl rfl ?_
  refine jv_callVC (en' := jeIX) (pv := jpI) (As := [.int (a1), .int (a2), .int (a3)]) (S := [.int (0), .ref (a4)]) (jv_dk t_L_range (k := 6) rfl) (fun _ => rfl) (fun _ => rfl) lk_L_40 me_X12_range mv_X12_range ⟨by decide, by decide⟩ rfl rfl rfl (Nat.le_of_ble_eq_true rfl) (P_X12_range X a0 a1 a2 a3 h) (fun v1 h2 => ?_) (fun E h1 => ?_)
  · show jv_O X M_L_range _ jeI 10 [some (.ref (a0)), some (.int (a1)), some (.int (a2)), some (.int (a3)), some (.ref (a4)), none] [.int (v1), .int (0), .ref (a4)] h2 _
    refine jv_i2l (jv_dk t_L_range (k := 7) rfl) ?_
    refine jv_lastore (jv_dk t_L_range (k := 8) rfl) (fun h3 => ?_)
    refine jv_goto (tgt := 19) (jv_dk t_L_range (k := 9) rfl) rfl ?_
    refine jv_iconst (v := 0) (jv_dk t_L_range (k := 13) rfl) (by decide) ?_
    exact jv_iret (ty := .int) (jv_dk t_L_range (k := 14) rfl) rfl rfl rfl
  · by_cases e0 : E = "java/util/NoSuchElementException"
    · subst e0
      rw [if_pos rfl]
      exact Or.inr ⟨"java/util/NoSuchElementException", [], [], ⟨0, 12, 15, 18⟩, rfl, by decide, by decide, cc_L_18, ca_NoSuchElementException, (fun z hz => nomatch hz), fun q9 => by
        refine jv_astore (L' := [some (.ref (a0)), some (.int (a1)), some (.int (a2)), some (.int (a3)), some (.ref (a4)), some (.ref (q9))]) (jv_dk t_L_range (k := 10) rfl) (Nat.le_of_ble_eq_true rfl) (Or.inr ⟨_, rfl⟩) rfl ?_
        refine jv_iconst (v := 1) (jv_dk t_L_range (k := 11) rfl) (by decide) ?_
        exact jv_iret (ty := .int) (jv_dk t_L_range (k := 12) rfl) rfl rfl rfl
      ⟩
    left
    rw [if_neg e0]
def t0_L_mounted : List (Nat × Instr × Nat) := [(0, .aload_n 3, 1), (1, .iconst 0, 1), (2, .aload_n 0, 1), (3, .iload_n 1, 1), (4, .iload_n 2, 1), (5, .invokevirtual 43, 3), (8, .i2l, 1), (9, .lastore, 1), (10, .goto 7, 3), (13, .astore 4, 2), (15, .iconst 1, 1), (16, .ireturn, 1), (17, .iconst 0, 1), (18, .ireturn, 1)]
theorem t_L_mounted : jv_dec cL_mounted t0_L_mounted = true := by decide +kernel
def M_L_mounted : jm := (yL_mounted, cL_mounted, 5, (some .int), 8, 145, [(0, 10, 13, 18)])
theorem lk_L_43 : Cond.methodLink RL 43 M_X12_mounted.1 ∈ lw_tbl := (jv_at 1228 (by decide +kernel))
set_option maxRecDepth 20000 in
theorem me_X12_mounted : jv_me M_X12_mounted 2 := ⟨(jv_in5 (List.mem_of_getElem? (i := 111) rfl)), (jv_at 161 (by decide +kernel)), ⟨by decide, by decide⟩, by decide +kernel⟩
theorem mv_X12_mounted : jv_mv M_X12_mounted := ⟨(jv_at 1229 (by decide +kernel)), (jv_at 1230 (by decide +kernel))⟩
def f_L_mounted (a0 : Nat) (a1 : Int32) (a2 : Int32) (a3 : Nat) (h : jh) : Option (Int32 × jh) :=
  cVC h a0 10 (f_X12_mounted a0 a1 a2 h) (fun v1 h2 =>
  sL h2 a3 0 v1.toInt64 fun h3 =>
  some (0, h3)) (fun E h1 => if E = "java/util/NoSuchElementException" then
  some (1, h1)
  else none)
theorem P_L_mounted (X : jx) (a0 : Nat) (a1 : Int32) (a2 : Int32) (a3 : Nat) (h : jh) : jv_PH X M_L_mounted jeI [.ref (a0), .int (a1), .int (a2), .ref (a3)] h (f_L_mounted a0 a1 a2 a3 h) := by
  refine jv_PH.of (by decide) (by simp [Value.category]) (Nat.le_of_ble_eq_true rfl) ?_
  show jv_O X M_L_mounted (h.1, h.2.1) jeI 0 [some (.ref (a0)), some (.int (a1)), some (.int (a2)), some (.ref (a3)), none] [] h (f_L_mounted a0 a1 a2 a3 h)
  unfold f_L_mounted
  refine jv_aload_n (jv_dk t_L_mounted (k := 0) rfl) rfl rfl (Or.inr ⟨_, rfl⟩) ?_
  refine jv_iconst (v := 0) (jv_dk t_L_mounted (k := 1) rfl) (by decide) ?_
  refine jv_aload_n (jv_dk t_L_mounted (k := 2) rfl) rfl rfl (Or.inr ⟨_, rfl⟩) ?_
  refine jv_iload_n (jv_dk t_L_mounted (k := 3) rfl) rfl rfl ?_
  refine jv_iload_n (jv_dk t_L_mounted (k := 4) rfl) rfl rfl ?_
  refine jv_callVC (en' := jeIX) (pv := jpI) (As := [.int (a1), .int (a2)]) (S := [.int (0), .ref (a3)]) (jv_dk t_L_mounted (k := 5) rfl) (fun _ => rfl) (fun _ => rfl) lk_L_43 me_X12_mounted mv_X12_mounted ⟨by decide, by decide⟩ rfl rfl rfl (Nat.le_of_ble_eq_true rfl) (P_X12_mounted X a0 a1 a2 h) (fun v1 h2 => ?_) (fun E h1 => ?_)
  · show jv_O X M_L_mounted _ jeI 8 [some (.ref (a0)), some (.int (a1)), some (.int (a2)), some (.ref (a3)), none] [.int (v1), .int (0), .ref (a3)] h2 _
    refine jv_i2l (jv_dk t_L_mounted (k := 6) rfl) ?_
    refine jv_lastore (jv_dk t_L_mounted (k := 7) rfl) (fun h3 => ?_)
    refine jv_goto (tgt := 17) (jv_dk t_L_mounted (k := 8) rfl) rfl ?_
    refine jv_iconst (v := 0) (jv_dk t_L_mounted (k := 12) rfl) (by decide) ?_
    exact jv_iret (ty := .int) (jv_dk t_L_mounted (k := 13) rfl) rfl rfl rfl
  · by_cases e0 : E = "java/util/NoSuchElementException"
    · subst e0
      rw [if_pos rfl]
      exact Or.inr ⟨"java/util/NoSuchElementException", [], [], ⟨0, 10, 13, 18⟩, rfl, by decide, by decide, cc_L_18, ca_NoSuchElementException, (fun z hz => nomatch hz), fun q9 => by
        refine jv_astore (L' := [some (.ref (a0)), some (.int (a1)), some (.int (a2)), some (.ref (a3)), some (.ref (q9))]) (jv_dk t_L_mounted (k := 9) rfl) (Nat.le_of_ble_eq_true rfl) (Or.inr ⟨_, rfl⟩) rfl ?_
        refine jv_iconst (v := 1) (jv_dk t_L_mounted (k := 10) rfl) (by decide) ?_
        exact jv_iret (ty := .int) (jv_dk t_L_mounted (k := 11) rfl) rfl rfl rfl
      ⟩
    left
    rw [if_neg e0]
def t0_L_may : List (Nat × Instr × Nat) := [(0, .aload 4, 2), (2, .iconst 0, 1), (3, .aload_n 0, 1), (4, .iload_n 1, 1), (5, .iload_n 2, 1), (6, .iload_n 3, 1), (7, .invokevirtual 46, 3), (10, .i2l, 1), (11, .lastore, 1), (12, .goto 7, 3), (15, .astore 5, 2), (17, .iconst 1, 1), (18, .ireturn, 1), (19, .iconst 0, 1), (20, .ireturn, 1)]
theorem t_L_may : jv_dec cL_may t0_L_may = true := by decide +kernel
def M_L_may : jm := (yL_may, cL_may, 6, (some .int), 8, 145, [(0, 12, 15, 18)])
theorem lk_L_46 : Cond.methodLink RL 46 M_X12_may.1 ∈ lw_tbl := (jv_at 1235 (by decide +kernel))
set_option maxRecDepth 20000 in
theorem me_X12_may : jv_me M_X12_may 3 := ⟨(jv_in5 (List.mem_of_getElem? (i := 118) rfl)), (jv_at 161 (by decide +kernel)), ⟨by decide, by decide⟩, by decide +kernel⟩
theorem mv_X12_may : jv_mv M_X12_may := ⟨(jv_at 1236 (by decide +kernel)), (jv_at 1237 (by decide +kernel))⟩
def f_L_may (a0 : Nat) (a1 : Int32) (a2 : Int32) (a3 : Int32) (a4 : Nat) (h : jh) : Option (Int32 × jh) :=
  cVC h a0 10 (f_X12_may a0 a1 a2 a3 h) (fun v1 h2 =>
  sL h2 a4 0 v1.toInt64 fun h3 =>
  some (0, h3)) (fun E h1 => if E = "java/util/NoSuchElementException" then
  some (1, h1)
  else none)
theorem P_L_may (X : jx) (a0 : Nat) (a1 : Int32) (a2 : Int32) (a3 : Int32) (a4 : Nat) (h : jh) : jv_PH X M_L_may jeI [.ref (a0), .int (a1), .int (a2), .int (a3), .ref (a4)] h (f_L_may a0 a1 a2 a3 a4 h) := by
  refine jv_PH.of (by decide) (by simp [Value.category]) (Nat.le_of_ble_eq_true rfl) ?_
  show jv_O X M_L_may (h.1, h.2.1) jeI 0 [some (.ref (a0)), some (.int (a1)), some (.int (a2)), some (.int (a3)), some (.ref (a4)), none] [] h (f_L_may a0 a1 a2 a3 a4 h)
  unfold f_L_may
  refine jv_aload (jv_dk t_L_may (k := 0) rfl) rfl (Or.inr ⟨_, rfl⟩) ?_
  refine jv_iconst (v := 0) (jv_dk t_L_may (k := 1) rfl) (by decide) ?_
  refine jv_aload_n (jv_dk t_L_may (k := 2) rfl) rfl rfl (Or.inr ⟨_, rfl⟩) ?_
  refine jv_iload_n (jv_dk t_L_may (k := 3) rfl) rfl rfl ?_
  refine jv_iload_n (jv_dk t_L_may (k := 4) rfl) rfl rfl ?_
  refine jv_iload_n (jv_dk t_L_may (k := 5) rfl) rfl rfl ?_
  refine jv_callVC (en' := jeIX) (pv := jpI) (As := [.int (a1), .int (a2), .int (a3)]) (S := [.int (0), .ref (a4)]) (jv_dk t_L_may (k := 6) rfl) (fun _ => rfl) (fun _ => rfl) lk_L_46 me_X12_may mv_X12_may ⟨by decide, by decide⟩ rfl rfl rfl (Nat.le_of_ble_eq_true rfl) (P_X12_may X a0 a1 a2 a3 h) (fun v1 h2 => ?_) (fun E h1 => ?_)
  · show jv_O X M_L_may _ jeI 10 [some (.ref (a0)), some (.int (a1)), some (.int (a2)), some (.int (a3)), some (.ref (a4)), none] [.int (v1), .int (0), .ref (a4)] h2 _
    refine jv_i2l (jv_dk t_L_may (k := 7) rfl) ?_
    refine jv_lastore (jv_dk t_L_may (k := 8) rfl) (fun h3 => ?_)
    refine jv_goto (tgt := 19) (jv_dk t_L_may (k := 9) rfl) rfl ?_
    refine jv_iconst (v := 0) (jv_dk t_L_may (k := 13) rfl) (by decide) ?_
    exact jv_iret (ty := .int) (jv_dk t_L_may (k := 14) rfl) rfl rfl rfl
  · by_cases e0 : E = "java/util/NoSuchElementException"
    · subst e0
      rw [if_pos rfl]
      exact Or.inr ⟨"java/util/NoSuchElementException", [], [], ⟨0, 12, 15, 18⟩, rfl, by decide, by decide, cc_L_18, ca_NoSuchElementException, (fun z hz => nomatch hz), fun q9 => by
        refine jv_astore (L' := [some (.ref (a0)), some (.int (a1)), some (.int (a2)), some (.int (a3)), some (.ref (a4)), some (.ref (q9))]) (jv_dk t_L_may (k := 10) rfl) (Nat.le_of_ble_eq_true rfl) (Or.inr ⟨_, rfl⟩) rfl ?_
        refine jv_iconst (v := 1) (jv_dk t_L_may (k := 11) rfl) (by decide) ?_
        exact jv_iret (ty := .int) (jv_dk t_L_may (k := 12) rfl) rfl rfl rfl
      ⟩
    left
    rw [if_neg e0]
def t0_L_over : List (Nat × Instr × Nat) := [(0, .aload_n 3, 1), (1, .iconst 0, 1), (2, .aload_n 0, 1), (3, .iload_n 1, 1), (4, .iload_n 2, 1), (5, .invokevirtual 49, 3), (8, .i2l, 1), (9, .lastore, 1), (10, .goto 7, 3), (13, .astore 4, 2), (15, .iconst 1, 1), (16, .ireturn, 1), (17, .iconst 0, 1), (18, .ireturn, 1)]
theorem t_L_over : jv_dec cL_over t0_L_over = true := by decide +kernel
def M_L_over : jm := (yL_over, cL_over, 5, (some .int), 8, 145, [(0, 10, 13, 18)])
theorem lk_L_49 : Cond.methodLink RL 49 M_X12_over.1 ∈ lw_tbl := (jv_at 1246 (by decide +kernel))
set_option maxRecDepth 20000 in
theorem me_X12_over : jv_me M_X12_over 2 := ⟨(jv_in5 (List.mem_of_getElem? (i := 129) rfl)), (jv_at 161 (by decide +kernel)), ⟨by decide, by decide⟩, by decide +kernel⟩
theorem mv_X12_over : jv_mv M_X12_over := ⟨(jv_at 1247 (by decide +kernel)), (jv_at 1248 (by decide +kernel))⟩
def f_L_over (a0 : Nat) (a1 : Int32) (a2 : Int32) (a3 : Nat) (h : jh) : Option (Int32 × jh) :=
  cVC h a0 10 (f_X12_over a0 a1 a2 h) (fun v1 h2 =>
  sL h2 a3 0 v1.toInt64 fun h3 =>
  some (0, h3)) (fun E h1 => if E = "java/util/NoSuchElementException" then
  some (1, h1)
  else none)
theorem P_L_over (X : jx) (a0 : Nat) (a1 : Int32) (a2 : Int32) (a3 : Nat) (h : jh) : jv_PH X M_L_over jeI [.ref (a0), .int (a1), .int (a2), .ref (a3)] h (f_L_over a0 a1 a2 a3 h) := by
  refine jv_PH.of (by decide) (by simp [Value.category]) (Nat.le_of_ble_eq_true rfl) ?_
  show jv_O X M_L_over (h.1, h.2.1) jeI 0 [some (.ref (a0)), some (.int (a1)), some (.int (a2)), some (.ref (a3)), none] [] h (f_L_over a0 a1 a2 a3 h)
  unfold f_L_over
  refine jv_aload_n (jv_dk t_L_over (k := 0) rfl) rfl rfl (Or.inr ⟨_, rfl⟩) ?_
  refine jv_iconst (v := 0) (jv_dk t_L_over (k := 1) rfl) (by decide) ?_
  refine jv_aload_n (jv_dk t_L_over (k := 2) rfl) rfl rfl (Or.inr ⟨_, rfl⟩) ?_
  refine jv_iload_n (jv_dk t_L_over (k := 3) rfl) rfl rfl ?_
  refine jv_iload_n (jv_dk t_L_over (k := 4) rfl) rfl rfl ?_
  refine jv_callVC (en' := jeIX) (pv := jpI) (As := [.int (a1), .int (a2)]) (S := [.int (0), .ref (a3)]) (jv_dk t_L_over (k := 5) rfl) (fun _ => rfl) (fun _ => rfl) lk_L_49 me_X12_over mv_X12_over ⟨by decide, by decide⟩ rfl rfl rfl (Nat.le_of_ble_eq_true rfl) (P_X12_over X a0 a1 a2 h) (fun v1 h2 => ?_) (fun E h1 => ?_)
  · show jv_O X M_L_over _ jeI 8 [some (.ref (a0)), some (.int (a1)), some (.int (a2)), some (.ref (a3)), none] [.int (v1), .int (0), .ref (a3)] h2 _
    refine jv_i2l (jv_dk t_L_over (k := 6) rfl) ?_
    refine jv_lastore (jv_dk t_L_over (k := 7) rfl) (fun h3 => ?_)
    refine jv_goto (tgt := 17) (jv_dk t_L_over (k := 8) rfl) rfl ?_
    refine jv_iconst (v := 0) (jv_dk t_L_over (k := 12) rfl) (by decide) ?_
    exact jv_iret (ty := .int) (jv_dk t_L_over (k := 13) rfl) rfl rfl rfl
  · by_cases e0 : E = "java/util/NoSuchElementException"
    · subst e0
      rw [if_pos rfl]
      exact Or.inr ⟨"java/util/NoSuchElementException", [], [], ⟨0, 10, 13, 18⟩, rfl, by decide, by decide, cc_L_18, ca_NoSuchElementException, (fun z hz => nomatch hz), fun q9 => by
        refine jv_astore (L' := [some (.ref (a0)), some (.int (a1)), some (.int (a2)), some (.ref (a3)), some (.ref (q9))]) (jv_dk t_L_over (k := 9) rfl) (Nat.le_of_ble_eq_true rfl) (Or.inr ⟨_, rfl⟩) rfl ?_
        refine jv_iconst (v := 1) (jv_dk t_L_over (k := 10) rfl) (by decide) ?_
        exact jv_iret (ty := .int) (jv_dk t_L_over (k := 11) rfl) rfl rfl rfl
      ⟩
    left
    rw [if_neg e0]
def t0_L_set : List (Nat × Instr × Nat) := [(0, .aload_n 3, 1), (1, .iconst 0, 1), (2, .aload_n 0, 1), (3, .iload_n 1, 1), (4, .iload_n 2, 1), (5, .invokevirtual 52, 3), (8, .i2l, 1), (9, .lastore, 1), (10, .goto 7, 3), (13, .astore 4, 2), (15, .iconst 1, 1), (16, .ireturn, 1), (17, .iconst 0, 1), (18, .ireturn, 1)]
theorem t_L_set : jv_dec cL_set t0_L_set = true := by decide +kernel
def M_L_set : jm := (yL_set, cL_set, 5, (some .int), 8, 146, [(0, 10, 13, 18)])
theorem lk_L_52 : Cond.methodLink RL 52 M_X12_set.1 ∈ lw_tbl := (jv_at 1253 (by decide +kernel))
set_option maxRecDepth 20000 in
theorem me_X12_set : jv_me M_X12_set 2 := ⟨(jv_in5 (List.mem_of_getElem? (i := 136) rfl)), (jv_at 161 (by decide +kernel)), ⟨by decide, by decide⟩, by decide +kernel⟩
theorem mv_X12_set : jv_mv M_X12_set := ⟨(jv_at 1254 (by decide +kernel)), (jv_at 1255 (by decide +kernel))⟩
def f_L_set (a0 : Nat) (a1 : Int32) (a2 : Int32) (a3 : Nat) (h : jh) : Option (Int32 × jh) :=
  cVC h a0 10 (f_X12_set a0 a1 a2 h) (fun v1 h2 =>
  sL h2 a3 0 v1.toInt64 fun h3 =>
  some (0, h3)) (fun E h1 => if E = "java/util/NoSuchElementException" then
  some (1, h1)
  else none)
theorem P_L_set (X : jx) (a0 : Nat) (a1 : Int32) (a2 : Int32) (a3 : Nat) (h : jh) : jv_PH X M_L_set jeI [.ref (a0), .int (a1), .int (a2), .ref (a3)] h (f_L_set a0 a1 a2 a3 h) := by
  refine jv_PH.of (by decide) (by simp [Value.category]) (Nat.le_of_ble_eq_true rfl) ?_
  show jv_O X M_L_set (h.1, h.2.1) jeI 0 [some (.ref (a0)), some (.int (a1)), some (.int (a2)), some (.ref (a3)), none] [] h (f_L_set a0 a1 a2 a3 h)
  unfold f_L_set
  refine jv_aload_n (jv_dk t_L_set (k := 0) rfl) rfl rfl (Or.inr ⟨_, rfl⟩) ?_
  refine jv_iconst (v := 0) (jv_dk t_L_set (k := 1) rfl) (by decide) ?_
  refine jv_aload_n (jv_dk t_L_set (k := 2) rfl) rfl rfl (Or.inr ⟨_, rfl⟩) ?_
  refine jv_iload_n (jv_dk t_L_set (k := 3) rfl) rfl rfl ?_
  refine jv_iload_n (jv_dk t_L_set (k := 4) rfl) rfl rfl ?_
  refine jv_callVC (en' := jeIX) (pv := jpI) (As := [.int (a1), .int (a2)]) (S := [.int (0), .ref (a3)]) (jv_dk t_L_set (k := 5) rfl) (fun _ => rfl) (fun _ => rfl) lk_L_52 me_X12_set mv_X12_set ⟨by decide, by decide⟩ rfl rfl rfl (Nat.le_of_ble_eq_true rfl) (P_X12_set X a0 a1 a2 h) (fun v1 h2 => ?_) (fun E h1 => ?_)
  · show jv_O X M_L_set _ jeI 8 [some (.ref (a0)), some (.int (a1)), some (.int (a2)), some (.ref (a3)), none] [.int (v1), .int (0), .ref (a3)] h2 _
    refine jv_i2l (jv_dk t_L_set (k := 6) rfl) ?_
    refine jv_lastore (jv_dk t_L_set (k := 7) rfl) (fun h3 => ?_)
    refine jv_goto (tgt := 17) (jv_dk t_L_set (k := 8) rfl) rfl ?_
    refine jv_iconst (v := 0) (jv_dk t_L_set (k := 12) rfl) (by decide) ?_
    exact jv_iret (ty := .int) (jv_dk t_L_set (k := 13) rfl) rfl rfl rfl
  · by_cases e0 : E = "java/util/NoSuchElementException"
    · subst e0
      rw [if_pos rfl]
      exact Or.inr ⟨"java/util/NoSuchElementException", [], [], ⟨0, 10, 13, 18⟩, rfl, by decide, by decide, cc_L_18, ca_NoSuchElementException, (fun z hz => nomatch hz), fun q9 => by
        refine jv_astore (L' := [some (.ref (a0)), some (.int (a1)), some (.int (a2)), some (.ref (a3)), some (.ref (q9))]) (jv_dk t_L_set (k := 9) rfl) (Nat.le_of_ble_eq_true rfl) (Or.inr ⟨_, rfl⟩) rfl ?_
        refine jv_iconst (v := 1) (jv_dk t_L_set (k := 10) rfl) (by decide) ?_
        exact jv_iret (ty := .int) (jv_dk t_L_set (k := 11) rfl) rfl rfl rfl
      ⟩
    left
    rw [if_neg e0]
def t0_L_shared : List (Nat × Instr × Nat) := [(0, .aload_n 3, 1), (1, .iconst 0, 1), (2, .aload_n 0, 1), (3, .iload_n 1, 1), (4, .iload_n 2, 1), (5, .invokevirtual 55, 3), (8, .i2l, 1), (9, .lastore, 1), (10, .goto 7, 3), (13, .astore 4, 2), (15, .iconst 1, 1), (16, .ireturn, 1), (17, .iconst 0, 1), (18, .ireturn, 1)]
theorem t_L_shared : jv_dec cL_shared t0_L_shared = true := by decide +kernel
def M_L_shared : jm := (yL_shared, cL_shared, 5, (some .int), 8, 148, [(0, 10, 13, 18)])
theorem lk_L_55 : Cond.methodLink RL 55 M_X12_shared.1 ∈ lw_tbl := (jv_at 1289 (by decide +kernel))
set_option maxRecDepth 20000 in
theorem me_X12_shared : jv_me M_X12_shared 2 := ⟨(jv_in5 (List.mem_of_getElem? (i := 172) rfl)), (jv_at 161 (by decide +kernel)), ⟨by decide, by decide⟩, by decide +kernel⟩
theorem mv_X12_shared : jv_mv M_X12_shared := ⟨(jv_at 1290 (by decide +kernel)), (jv_at 1291 (by decide +kernel))⟩
def f_L_shared (a0 : Nat) (a1 : Int32) (a2 : Int32) (a3 : Nat) (h : jh) : Option (Int32 × jh) :=
  cVC h a0 10 (f_X12_shared a0 a1 a2 h) (fun v1 h2 =>
  sL h2 a3 0 v1.toInt64 fun h3 =>
  some (0, h3)) (fun E h1 => if E = "java/util/NoSuchElementException" then
  some (1, h1)
  else none)
theorem P_L_shared (X : jx) (a0 : Nat) (a1 : Int32) (a2 : Int32) (a3 : Nat) (h : jh) : jv_PH X M_L_shared jeI [.ref (a0), .int (a1), .int (a2), .ref (a3)] h (f_L_shared a0 a1 a2 a3 h) := by
  refine jv_PH.of (by decide) (by simp [Value.category]) (Nat.le_of_ble_eq_true rfl) ?_
  show jv_O X M_L_shared (h.1, h.2.1) jeI 0 [some (.ref (a0)), some (.int (a1)), some (.int (a2)), some (.ref (a3)), none] [] h (f_L_shared a0 a1 a2 a3 h)
  unfold f_L_shared
  refine jv_aload_n (jv_dk t_L_shared (k := 0) rfl) rfl rfl (Or.inr ⟨_, rfl⟩) ?_
  refine jv_iconst (v := 0) (jv_dk t_L_shared (k := 1) rfl) (by decide) ?_
  refine jv_aload_n (jv_dk t_L_shared (k := 2) rfl) rfl rfl (Or.inr ⟨_, rfl⟩) ?_
  refine jv_iload_n (jv_dk t_L_shared (k := 3) rfl) rfl rfl ?_
  refine jv_iload_n (jv_dk t_L_shared (k := 4) rfl) rfl rfl ?_
  refine jv_callVC (en' := jeIX) (pv := jpI) (As := [.int (a1), .int (a2)]) (S := [.int (0), .ref (a3)]) (jv_dk t_L_shared (k := 5) rfl) (fun _ => rfl) (fun _ => rfl) lk_L_55 me_X12_shared mv_X12_shared ⟨by decide, by decide⟩ rfl rfl rfl (Nat.le_of_ble_eq_true rfl) (P_X12_shared X a0 a1 a2 h) (fun v1 h2 => ?_) (fun E h1 => ?_)
  · show jv_O X M_L_shared _ jeI 8 [some (.ref (a0)), some (.int (a1)), some (.int (a2)), some (.ref (a3)), none] [.int (v1), .int (0), .ref (a3)] h2 _
    refine jv_i2l (jv_dk t_L_shared (k := 6) rfl) ?_
    refine jv_lastore (jv_dk t_L_shared (k := 7) rfl) (fun h3 => ?_)
    refine jv_goto (tgt := 17) (jv_dk t_L_shared (k := 8) rfl) rfl ?_
    refine jv_iconst (v := 0) (jv_dk t_L_shared (k := 12) rfl) (by decide) ?_
    exact jv_iret (ty := .int) (jv_dk t_L_shared (k := 13) rfl) rfl rfl rfl
  · by_cases e0 : E = "java/util/NoSuchElementException"
    · subst e0
      rw [if_pos rfl]
      exact Or.inr ⟨"java/util/NoSuchElementException", [], [], ⟨0, 10, 13, 18⟩, rfl, by decide, by decide, cc_L_18, ca_NoSuchElementException, (fun z hz => nomatch hz), fun q9 => by
        refine jv_astore (L' := [some (.ref (a0)), some (.int (a1)), some (.int (a2)), some (.ref (a3)), some (.ref (q9))]) (jv_dk t_L_shared (k := 9) rfl) (Nat.le_of_ble_eq_true rfl) (Or.inr ⟨_, rfl⟩) rfl ?_
        refine jv_iconst (v := 1) (jv_dk t_L_shared (k := 10) rfl) (by decide) ?_
        exact jv_iret (ty := .int) (jv_dk t_L_shared (k := 11) rfl) rfl rfl rfl
      ⟩
    left
    rw [if_neg e0]
def t0_L_steps : List (Nat × Instr × Nat) := [(0, .aload_n 3, 1), (1, .iconst 0, 1), (2, .aload_n 0, 1), (3, .iload_n 1, 1), (4, .iload_n 2, 1), (5, .invokevirtual 58, 3), (8, .i2l, 1), (9, .lastore, 1), (10, .goto 7, 3), (13, .astore 4, 2), (15, .iconst 1, 1), (16, .ireturn, 1), (17, .iconst 0, 1), (18, .ireturn, 1)]
theorem t_L_steps : jv_dec cL_steps t0_L_steps = true := by decide +kernel
def M_L_steps : jm := (yL_steps, cL_steps, 5, (some .int), 8, 145, [(0, 10, 13, 18)])
theorem lk_L_58 : Cond.methodLink RL 58 M_X12_steps.1 ∈ lw_tbl := (jv_at 1297 (by decide +kernel))
set_option maxRecDepth 20000 in
theorem me_X12_steps : jv_me M_X12_steps 2 := ⟨(jv_in5 (List.mem_of_getElem? (i := 180) rfl)), (jv_at 161 (by decide +kernel)), ⟨by decide, by decide⟩, by decide +kernel⟩
theorem mv_X12_steps : jv_mv M_X12_steps := ⟨(jv_at 1298 (by decide +kernel)), (jv_at 1299 (by decide +kernel))⟩
def f_L_steps (a0 : Nat) (a1 : Int32) (a2 : Int32) (a3 : Nat) (h : jh) : Option (Int32 × jh) :=
  cVC h a0 10 (f_X12_steps a0 a1 a2 h) (fun v1 h2 =>
  sL h2 a3 0 v1.toInt64 fun h3 =>
  some (0, h3)) (fun E h1 => if E = "java/util/NoSuchElementException" then
  some (1, h1)
  else none)
theorem P_L_steps (X : jx) (a0 : Nat) (a1 : Int32) (a2 : Int32) (a3 : Nat) (h : jh) : jv_PH X M_L_steps jeI [.ref (a0), .int (a1), .int (a2), .ref (a3)] h (f_L_steps a0 a1 a2 a3 h) := by
  refine jv_PH.of (by decide) (by simp [Value.category]) (Nat.le_of_ble_eq_true rfl) ?_
  show jv_O X M_L_steps (h.1, h.2.1) jeI 0 [some (.ref (a0)), some (.int (a1)), some (.int (a2)), some (.ref (a3)), none] [] h (f_L_steps a0 a1 a2 a3 h)
  unfold f_L_steps
  refine jv_aload_n (jv_dk t_L_steps (k := 0) rfl) rfl rfl (Or.inr ⟨_, rfl⟩) ?_
  refine jv_iconst (v := 0) (jv_dk t_L_steps (k := 1) rfl) (by decide) ?_
  refine jv_aload_n (jv_dk t_L_steps (k := 2) rfl) rfl rfl (Or.inr ⟨_, rfl⟩) ?_
  refine jv_iload_n (jv_dk t_L_steps (k := 3) rfl) rfl rfl ?_
  refine jv_iload_n (jv_dk t_L_steps (k := 4) rfl) rfl rfl ?_
  refine jv_callVC (en' := jeIX) (pv := jpI) (As := [.int (a1), .int (a2)]) (S := [.int (0), .ref (a3)]) (jv_dk t_L_steps (k := 5) rfl) (fun _ => rfl) (fun _ => rfl) lk_L_58 me_X12_steps mv_X12_steps ⟨by decide, by decide⟩ rfl rfl rfl (Nat.le_of_ble_eq_true rfl) (P_X12_steps X a0 a1 a2 h) (fun v1 h2 => ?_) (fun E h1 => ?_)
  · show jv_O X M_L_steps _ jeI 8 [some (.ref (a0)), some (.int (a1)), some (.int (a2)), some (.ref (a3)), none] [.int (v1), .int (0), .ref (a3)] h2 _
    refine jv_i2l (jv_dk t_L_steps (k := 6) rfl) ?_
    refine jv_lastore (jv_dk t_L_steps (k := 7) rfl) (fun h3 => ?_)
    refine jv_goto (tgt := 17) (jv_dk t_L_steps (k := 8) rfl) rfl ?_
    refine jv_iconst (v := 0) (jv_dk t_L_steps (k := 12) rfl) (by decide) ?_
    exact jv_iret (ty := .int) (jv_dk t_L_steps (k := 13) rfl) rfl rfl rfl
  · by_cases e0 : E = "java/util/NoSuchElementException"
    · subst e0
      rw [if_pos rfl]
      exact Or.inr ⟨"java/util/NoSuchElementException", [], [], ⟨0, 10, 13, 18⟩, rfl, by decide, by decide, cc_L_18, ca_NoSuchElementException, (fun z hz => nomatch hz), fun q9 => by
        refine jv_astore (L' := [some (.ref (a0)), some (.int (a1)), some (.int (a2)), some (.ref (a3)), some (.ref (q9))]) (jv_dk t_L_steps (k := 9) rfl) (Nat.le_of_ble_eq_true rfl) (Or.inr ⟨_, rfl⟩) rfl ?_
        refine jv_iconst (v := 1) (jv_dk t_L_steps (k := 10) rfl) (by decide) ?_
        exact jv_iret (ty := .int) (jv_dk t_L_steps (k := 11) rfl) rfl rfl rfl
      ⟩
    left
    rw [if_neg e0]
def t0_L_look : List (Nat × Instr × Nat) := [(0, .aload_n 2, 1), (1, .iconst 0, 1), (2, .aload_n 0, 1), (3, .iload_n 1, 1), (4, .invokevirtual 61, 3), (7, .i2l, 1), (8, .lastore, 1), (9, .goto 6, 3), (12, .astore_n 3, 1), (13, .iconst 1, 1), (14, .ireturn, 1), (15, .iconst 0, 1), (16, .ireturn, 1)]
theorem t_L_look : jv_dec cL_look t0_L_look = true := by decide +kernel
def M_L_look : jm := (yL_look, cL_look, 4, (some .int), 7, 127, [(0, 9, 12, 18)])
theorem lk_L_61 : Cond.methodLink RL 61 M_X12_look.1 ∈ lw_tbl := (jv_at 1304 (by decide +kernel))
set_option maxRecDepth 20000 in
theorem me_X12_look : jv_me M_X12_look 1 := ⟨(jv_in5 (List.mem_of_getElem? (i := 187) rfl)), (jv_at 161 (by decide +kernel)), ⟨by decide, by decide⟩, by decide +kernel⟩
theorem mv_X12_look : jv_mv M_X12_look := ⟨(jv_at 1305 (by decide +kernel)), (jv_at 1306 (by decide +kernel))⟩
def f_L_look (a0 : Nat) (a1 : Int32) (a2 : Nat) (h : jh) : Option (Int32 × jh) :=
  cVC h a0 10 (f_X12_look a0 a1 h) (fun v1 h2 =>
  sL h2 a2 0 v1.toInt64 fun h3 =>
  some (0, h3)) (fun E h1 => if E = "java/util/NoSuchElementException" then
  some (1, h1)
  else none)
theorem P_L_look (X : jx) (a0 : Nat) (a1 : Int32) (a2 : Nat) (h : jh) : jv_PH X M_L_look jeI [.ref (a0), .int (a1), .ref (a2)] h (f_L_look a0 a1 a2 h) := by
  refine jv_PH.of (by decide) (by simp [Value.category]) (Nat.le_of_ble_eq_true rfl) ?_
  show jv_O X M_L_look (h.1, h.2.1) jeI 0 [some (.ref (a0)), some (.int (a1)), some (.ref (a2)), none] [] h (f_L_look a0 a1 a2 h)
  unfold f_L_look
  refine jv_aload_n (jv_dk t_L_look (k := 0) rfl) rfl rfl (Or.inr ⟨_, rfl⟩) ?_
  refine jv_iconst (v := 0) (jv_dk t_L_look (k := 1) rfl) (by decide) ?_
  refine jv_aload_n (jv_dk t_L_look (k := 2) rfl) rfl rfl (Or.inr ⟨_, rfl⟩) ?_
  refine jv_iload_n (jv_dk t_L_look (k := 3) rfl) rfl rfl ?_
  refine jv_callVC (en' := jeIX) (pv := jpI) (As := [.int (a1)]) (S := [.int (0), .ref (a2)]) (jv_dk t_L_look (k := 4) rfl) (fun _ => rfl) (fun _ => rfl) lk_L_61 me_X12_look mv_X12_look ⟨by decide, by decide⟩ rfl rfl rfl (Nat.le_of_ble_eq_true rfl) (P_X12_look X a0 a1 h) (fun v1 h2 => ?_) (fun E h1 => ?_)
  · show jv_O X M_L_look _ jeI 7 [some (.ref (a0)), some (.int (a1)), some (.ref (a2)), none] [.int (v1), .int (0), .ref (a2)] h2 _
    refine jv_i2l (jv_dk t_L_look (k := 5) rfl) ?_
    refine jv_lastore (jv_dk t_L_look (k := 6) rfl) (fun h3 => ?_)
    refine jv_goto (tgt := 15) (jv_dk t_L_look (k := 7) rfl) rfl ?_
    refine jv_iconst (v := 0) (jv_dk t_L_look (k := 11) rfl) (by decide) ?_
    exact jv_iret (ty := .int) (jv_dk t_L_look (k := 12) rfl) rfl rfl rfl
  · by_cases e0 : E = "java/util/NoSuchElementException"
    · subst e0
      rw [if_pos rfl]
      exact Or.inr ⟨"java/util/NoSuchElementException", [], [], ⟨0, 9, 12, 18⟩, rfl, by decide, by decide, cc_L_18, ca_NoSuchElementException, (fun z hz => nomatch hz), fun q9 => by
        refine jv_astore_n (L' := [some (.ref (a0)), some (.int (a1)), some (.ref (a2)), some (.ref (q9))]) (jv_dk t_L_look (k := 8) rfl) rfl (Nat.le_of_ble_eq_true rfl) (Or.inr ⟨_, rfl⟩) rfl ?_
        refine jv_iconst (v := 1) (jv_dk t_L_look (k := 9) rfl) (by decide) ?_
        exact jv_iret (ty := .int) (jv_dk t_L_look (k := 10) rfl) rfl rfl rfl
      ⟩
    left
    rw [if_neg e0]
def t0_L_years : List (Nat × Instr × Nat) := [(0, .aload 4, 2), (2, .iconst 0, 1), (3, .aload_n 0, 1), (4, .iload_n 1, 1), (5, .iload_n 2, 1), (6, .iload_n 3, 1), (7, .invokevirtual 64, 3), (10, .i2l, 1), (11, .lastore, 1), (12, .goto 11, 3), (15, .astore 5, 2), (17, .iconst 1, 1), (18, .ireturn, 1), (19, .astore 5, 2), (21, .iconst 2, 1), (22, .ireturn, 1), (23, .iconst 0, 1), (24, .ireturn, 1)]
theorem t_L_years : jv_dec cL_years t0_L_years = true := by decide +kernel
def M_L_years : jm := (yL_years, cL_years, 6, (some .int), 8, 228, [(0, 12, 15, 18), (0, 12, 19, 13)])
theorem lk_L_64 : Cond.methodLink RL 64 M_X12_years.1 ∈ lw_tbl := (jv_at 1317 (by decide +kernel))
set_option maxRecDepth 20000 in
theorem me_X12_years : jv_me M_X12_years 3 := ⟨(jv_in5 (List.mem_of_getElem? (i := 200) rfl)), (jv_at 161 (by decide +kernel)), ⟨by decide, by decide⟩, by decide +kernel⟩
theorem mv_X12_years : jv_mv M_X12_years := ⟨(jv_at 1318 (by decide +kernel)), (jv_at 1319 (by decide +kernel))⟩
def f_L_years (a0 : Nat) (a1 : Int32) (a2 : Int32) (a3 : Int32) (a4 : Nat) (h : jh) : Option (Int32 × jh) :=
  cVC h a0 10 (f_X12_years a0 a1 a2 a3 h) (fun v1 h2 =>
  sL h2 a4 0 v1.toInt64 fun h3 =>
  some (0, h3)) (fun E h1 => if E = "java/util/NoSuchElementException" then
  some (1, h1)
  else if E = "java/lang/IllegalArgumentException" then
  some (2, h1)
  else none)
theorem P_L_years (X : jx) (a0 : Nat) (a1 : Int32) (a2 : Int32) (a3 : Int32) (a4 : Nat) (h : jh) : jv_PH X M_L_years jeI [.ref (a0), .int (a1), .int (a2), .int (a3), .ref (a4)] h (f_L_years a0 a1 a2 a3 a4 h) := by
  refine jv_PH.of (by decide) (by simp [Value.category]) (Nat.le_of_ble_eq_true rfl) ?_
  show jv_O X M_L_years (h.1, h.2.1) jeI 0 [some (.ref (a0)), some (.int (a1)), some (.int (a2)), some (.int (a3)), some (.ref (a4)), none] [] h (f_L_years a0 a1 a2 a3 a4 h)
  unfold f_L_years
  refine jv_aload (jv_dk t_L_years (k := 0) rfl) rfl (Or.inr ⟨_, rfl⟩) ?_
  refine jv_iconst (v := 0) (jv_dk t_L_years (k := 1) rfl) (by decide) ?_
  refine jv_aload_n (jv_dk t_L_years (k := 2) rfl) rfl rfl (Or.inr ⟨_, rfl⟩) ?_
  refine jv_iload_n (jv_dk t_L_years (k := 3) rfl) rfl rfl ?_
  refine jv_iload_n (jv_dk t_L_years (k := 4) rfl) rfl rfl ?_
  refine jv_iload_n (jv_dk t_L_years (k := 5) rfl) rfl rfl ?_
  refine jv_callVC (en' := jeIX) (pv := jpI) (As := [.int (a1), .int (a2), .int (a3)]) (S := [.int (0), .ref (a4)]) (jv_dk t_L_years (k := 6) rfl) (fun _ => rfl) (fun _ => rfl) lk_L_64 me_X12_years mv_X12_years ⟨by decide, by decide⟩ rfl rfl rfl (Nat.le_of_ble_eq_true rfl) (P_X12_years X a0 a1 a2 a3 h) (fun v1 h2 => ?_) (fun E h1 => ?_)
  · show jv_O X M_L_years _ jeI 10 [some (.ref (a0)), some (.int (a1)), some (.int (a2)), some (.int (a3)), some (.ref (a4)), none] [.int (v1), .int (0), .ref (a4)] h2 _
    refine jv_i2l (jv_dk t_L_years (k := 7) rfl) ?_
    refine jv_lastore (jv_dk t_L_years (k := 8) rfl) (fun h3 => ?_)
    refine jv_goto (tgt := 23) (jv_dk t_L_years (k := 9) rfl) rfl ?_
    refine jv_iconst (v := 0) (jv_dk t_L_years (k := 16) rfl) (by decide) ?_
    exact jv_iret (ty := .int) (jv_dk t_L_years (k := 17) rfl) rfl rfl rfl
  · by_cases e0 : E = "java/util/NoSuchElementException"
    · subst e0
      rw [if_pos rfl]
      exact Or.inr ⟨"java/util/NoSuchElementException", [], [⟨0, 12, 19, 13⟩], ⟨0, 12, 15, 18⟩, rfl, by decide, by decide, cc_L_18, ca_NoSuchElementException, (fun z hz => nomatch hz), fun q9 => by
        refine jv_astore (L' := [some (.ref (a0)), some (.int (a1)), some (.int (a2)), some (.int (a3)), some (.ref (a4)), some (.ref (q9))]) (jv_dk t_L_years (k := 10) rfl) (Nat.le_of_ble_eq_true rfl) (Or.inr ⟨_, rfl⟩) rfl ?_
        refine jv_iconst (v := 1) (jv_dk t_L_years (k := 11) rfl) (by decide) ?_
        exact jv_iret (ty := .int) (jv_dk t_L_years (k := 12) rfl) rfl rfl rfl
      ⟩
    by_cases e1 : E = "java/lang/IllegalArgumentException"
    · subst e1
      rw [if_neg (by decide)]
      rw [if_pos rfl]
      exact Or.inr ⟨"java/lang/IllegalArgumentException", [⟨0, 12, 15, 18⟩], [], ⟨0, 12, 19, 13⟩, rfl, by decide, by decide, cc_L_13, ca_IllegalArgumentException, (fun z hz => by rw [List.mem_singleton.mp hz]; exact Or.inr ⟨by decide, "java/util/NoSuchElementException", cc_L_18, fun U hK => hK.2.2.2.2.2.2.2.2.2.2.2⟩), fun q9 => by
        refine jv_astore (L' := [some (.ref (a0)), some (.int (a1)), some (.int (a2)), some (.int (a3)), some (.ref (a4)), some (.ref (q9))]) (jv_dk t_L_years (k := 13) rfl) (Nat.le_of_ble_eq_true rfl) (Or.inr ⟨_, rfl⟩) rfl ?_
        refine jv_iconst (v := 2) (jv_dk t_L_years (k := 14) rfl) (by decide) ?_
        exact jv_iret (ty := .int) (jv_dk t_L_years (k := 15) rfl) rfl rfl rfl
      ⟩
    left
    rw [if_neg e0, if_neg e1]
def t0_L_law : List (Nat × Instr × Nat) := [(0, .new 8, 3), (3, .dup, 1), (4, .invokespecial 67, 3), (7, .astore_n 1, 1), (8, .new 68, 3), (11, .dup, 1), (12, .invokespecial 70, 3), (15, .astore_n 2, 1), (16, .iconst 1, 1), (17, .newarray .long, 2), (19, .astore_n 3, 1), (20, .iconst 0, 1), (21, .istore 4, 2), (23, .iload 4, 2), (25, .aload_n 0, 1), (26, .arraylength, 1), (27, .bipush 6, 2), (29, .isub, 1), (30, .if_icmp .gt 1905, 3), (33, .aload_n 0, 1), (34, .iload 4, 2), (36, .iaload, 1), (37, .bipush 63, 2), (39, .iand, 1), (40, .tableswitch 1889 0 33 #[152, 225, 281, 294, 350, 418, 498, 566, 634, 702, 770, 850, 918, 998, 1066, 1091, 1128, 1201, 1238, 1287, 1312, 1361, 1386, 1423, 1436, 1504, 1572, 1640, 1705, 1718, 1774, 1785, 1865, 1876], 152), (192, .aload_n 1, 1), (193, .aload_n 0, 1), (194, .iload 4, 2), (196, .iconst 1, 1), (197, .iadd, 1), (198, .iaload, 1), (199, .aload_n 0, 1), (200, .iload 4, 2), (202, .iconst 2, 1), (203, .iadd, 1), (204, .iaload, 1), (205, .aload_n 0, 1), (206, .iload 4, 2), (208, .iconst 3, 1), (209, .iadd, 1), (210, .iaload, 1), (211, .aload_n 0, 1), (212, .iload 4, 2), (214, .iconst 4, 1), (215, .iadd, 1), (216, .iaload, 1), (217, .aload_n 0, 1), (218, .iload 4, 2), (220, .iconst 5, 1), (221, .iadd, 1), (222, .iaload, 1), (223, .invokevirtual 71, 3), (226, .aload_n 2, 1), (227, .aload_n 0, 1), (228, .iload 4, 2), (230, .iconst 1, 1), (231, .iadd, 1), (232, .iaload, 1), (233, .aload_n 0, 1), (234, .iload 4, 2), (236, .iconst 2, 1), (237, .iadd, 1), (238, .iaload, 1), (239, .aload_n 0, 1), (240, .iload 4, 2), (242, .iconst 3, 1), (243, .iadd, 1), (244, .iaload, 1), (245, .aload_n 0, 1), (246, .iload 4, 2), (248, .iconst 4, 1), (249, .iadd, 1), (250, .iaload, 1), (251, .aload_n 0, 1), (252, .iload 4, 2), (254, .iconst 5, 1), (255, .iadd, 1), (256, .iaload, 1), (257, .invokevirtual 75, 3), (260, .if_icmp .eq 1669, 3), (263, .iconst 0, 1), (264, .ireturn, 1), (265, .aload_n 1, 1), (266, .aload_n 0, 1), (267, .iload 4, 2), (269, .iconst 1, 1), (270, .iadd, 1), (271, .iaload, 1), (272, .aload_n 3, 1), (273, .invokestatic 76, 3), (276, .istore 5, 2), (278, .aload_n 2, 1), (279, .aload_n 0, 1), (280, .iload 4, 2), (282, .iconst 1, 1), (283, .iadd, 1), (284, .iaload, 1), (285, .invokevirtual 81, 3), (288, .istore 6, 2), (290, .aload_n 2, 1), (291, .invokevirtual 82, 3), (294, .iload 5, 2), (296, .if_icmp .eq 5, 3), (299, .iconst 0, 1), (300, .ireturn, 1), (301, .iload 5, 2), (303, .ifCond .ne 15, 3), (306, .aload_n 3, 1), (307, .iconst 0, 1), (308, .laload, 1), (309, .iload 6, 2), (311, .i2l, 1), (312, .lcmp, 1), (313, .ifCond .eq 5, 3), (316, .iconst 0, 1), (317, .ireturn, 1), (318, .goto 1611, 3), (321, .aload_n 1, 1), (322, .invokevirtual 86, 3), (325, .aload_n 2, 1), (326, .invokevirtual 89, 3), (329, .if_icmp .eq 1600, 3), (332, .iconst 0, 1), (333, .ireturn, 1), (334, .aload_n 1, 1), (335, .aload_n 0, 1), (336, .iload 4, 2), (338, .iconst 1, 1), (339, .iadd, 1), (340, .iaload, 1), (341, .aload_n 3, 1), (342, .invokestatic 90, 3), (345, .istore 5, 2), (347, .aload_n 2, 1), (348, .aload_n 0, 1), (349, .iload 4, 2), (351, .iconst 1, 1), (352, .iadd, 1), (353, .iaload, 1), (354, .invokevirtual 92, 3), (357, .istore 6, 2), (359, .aload_n 2, 1), (360, .invokevirtual 82, 3), (363, .iload 5, 2), (365, .if_icmp .eq 5, 3), (368, .iconst 0, 1), (369, .ireturn, 1), (370, .iload 5, 2), (372, .ifCond .ne 15, 3), (375, .aload_n 3, 1), (376, .iconst 0, 1), (377, .laload, 1), (378, .iload 6, 2), (380, .i2l, 1), (381, .lcmp, 1), (382, .ifCond .eq 5, 3), (385, .iconst 0, 1), (386, .ireturn, 1), (387, .goto 1542, 3), (390, .aload_n 1, 1), (391, .aload_n 0, 1), (392, .iload 4, 2), (394, .iconst 1, 1), (395, .iadd, 1), (396, .iaload, 1), (397, .aload_n 0, 1), (398, .iload 4, 2), (400, .iconst 2, 1), (401, .iadd, 1), (402, .iaload, 1), (403, .aload_n 3, 1), (404, .invokestatic 93, 3), (407, .istore 5, 2), (409, .aload_n 2, 1), (410, .aload_n 0, 1), (411, .iload 4, 2), (413, .iconst 1, 1), (414, .iadd, 1), (415, .iaload, 1), (416, .aload_n 0, 1), (417, .iload 4, 2), (419, .iconst 2, 1), (420, .iadd, 1), (421, .iaload, 1), (422, .invokevirtual 96, 3), (425, .istore 6, 2), (427, .aload_n 2, 1), (428, .invokevirtual 82, 3), (431, .iload 5, 2), (433, .if_icmp .eq 5, 3), (436, .iconst 0, 1), (437, .ireturn, 1), (438, .iload 5, 2), (440, .ifCond .ne 15, 3), (443, .aload_n 3, 1), (444, .iconst 0, 1), (445, .laload, 1), (446, .iload 6, 2), (448, .i2l, 1), (449, .lcmp, 1), (450, .ifCond .eq 5, 3), (453, .iconst 0, 1), (454, .ireturn, 1), (455, .goto 1474, 3), (458, .aload_n 1, 1), (459, .aload_n 0, 1), (460, .iload 4, 2), (462, .iconst 1, 1), (463, .iadd, 1), (464, .iaload, 1), (465, .aload_n 0, 1), (466, .iload 4, 2), (468, .iconst 2, 1), (469, .iadd, 1), (470, .iaload, 1), (471, .aload_n 0, 1), (472, .iload 4, 2), (474, .iconst 3, 1), (475, .iadd, 1), (476, .iaload, 1), (477, .aload_n 3, 1), (478, .invokestatic 97, 3), (481, .istore 5, 2), (483, .aload_n 2, 1), (484, .aload_n 0, 1), (485, .iload 4, 2), (487, .iconst 1, 1), (488, .iadd, 1), (489, .iaload, 1), (490, .aload_n 0, 1), (491, .iload 4, 2), (493, .iconst 2, 1), (494, .iadd, 1), (495, .iaload, 1), (496, .aload_n 0, 1), (497, .iload 4, 2), (499, .iconst 3, 1), (500, .iadd, 1), (501, .iaload, 1), (502, .invokevirtual 100, 3), (505, .istore 6, 2), (507, .aload_n 2, 1), (508, .invokevirtual 82, 3), (511, .iload 5, 2), (513, .if_icmp .eq 5, 3), (516, .iconst 0, 1), (517, .ireturn, 1), (518, .iload 5, 2), (520, .ifCond .ne 15, 3), (523, .aload_n 3, 1), (524, .iconst 0, 1), (525, .laload, 1), (526, .iload 6, 2), (528, .i2l, 1), (529, .lcmp, 1), (530, .ifCond .eq 5, 3), (533, .iconst 0, 1), (534, .ireturn, 1), (535, .goto 1394, 3), (538, .aload_n 1, 1), (539, .aload_n 0, 1), (540, .iload 4, 2), (542, .iconst 1, 1), (543, .iadd, 1), (544, .iaload, 1), (545, .aload_n 0, 1), (546, .iload 4, 2), (548, .iconst 2, 1), (549, .iadd, 1), (550, .iaload, 1), (551, .aload_n 3, 1), (552, .invokestatic 101, 3), (555, .istore 5, 2), (557, .aload_n 2, 1), (558, .aload_n 0, 1), (559, .iload 4, 2), (561, .iconst 1, 1), (562, .iadd, 1), (563, .iaload, 1), (564, .aload_n 0, 1), (565, .iload 4, 2), (567, .iconst 2, 1), (568, .iadd, 1), (569, .iaload, 1), (570, .invokevirtual 103, 3), (573, .istore 6, 2), (575, .aload_n 2, 1), (576, .invokevirtual 82, 3), (579, .iload 5, 2), (581, .if_icmp .eq 5, 3), (584, .iconst 0, 1), (585, .ireturn, 1), (586, .iload 5, 2), (588, .ifCond .ne 15, 3), (591, .aload_n 3, 1), (592, .iconst 0, 1), (593, .laload, 1), (594, .iload 6, 2), (596, .i2l, 1), (597, .lcmp, 1), (598, .ifCond .eq 5, 3), (601, .iconst 0, 1), (602, .ireturn, 1), (603, .goto 1326, 3), (606, .aload_n 1, 1), (607, .aload_n 0, 1), (608, .iload 4, 2), (610, .iconst 1, 1), (611, .iadd, 1), (612, .iaload, 1), (613, .aload_n 0, 1), (614, .iload 4, 2), (616, .iconst 2, 1), (617, .iadd, 1), (618, .iaload, 1), (619, .aload_n 3, 1), (620, .invokestatic 104, 3), (623, .istore 5, 2), (625, .aload_n 2, 1), (626, .aload_n 0, 1), (627, .iload 4, 2), (629, .iconst 1, 1), (630, .iadd, 1), (631, .iaload, 1), (632, .aload_n 0, 1), (633, .iload 4, 2), (635, .iconst 2, 1), (636, .iadd, 1), (637, .iaload, 1), (638, .invokevirtual 106, 3), (641, .istore 6, 2), (643, .aload_n 2, 1), (644, .invokevirtual 82, 3), (647, .iload 5, 2), (649, .if_icmp .eq 5, 3), (652, .iconst 0, 1), (653, .ireturn, 1), (654, .iload 5, 2), (656, .ifCond .ne 15, 3), (659, .aload_n 3, 1), (660, .iconst 0, 1), (661, .laload, 1), (662, .iload 6, 2), (664, .i2l, 1), (665, .lcmp, 1), (666, .ifCond .eq 5, 3), (669, .iconst 0, 1), (670, .ireturn, 1), (671, .goto 1258, 3), (674, .aload_n 1, 1), (675, .aload_n 0, 1), (676, .iload 4, 2), (678, .iconst 1, 1), (679, .iadd, 1), (680, .iaload, 1), (681, .aload_n 0, 1), (682, .iload 4, 2), (684, .iconst 2, 1), (685, .iadd, 1), (686, .iaload, 1), (687, .aload_n 3, 1), (688, .invokestatic 107, 3), (691, .istore 5, 2), (693, .aload_n 2, 1), (694, .aload_n 0, 1), (695, .iload 4, 2), (697, .iconst 1, 1), (698, .iadd, 1), (699, .iaload, 1), (700, .aload_n 0, 1), (701, .iload 4, 2), (703, .iconst 2, 1), (704, .iadd, 1), (705, .iaload, 1), (706, .invokevirtual 109, 3), (709, .istore 6, 2), (711, .aload_n 2, 1), (712, .invokevirtual 82, 3), (715, .iload 5, 2), (717, .if_icmp .eq 5, 3), (720, .iconst 0, 1), (721, .ireturn, 1), (722, .iload 5, 2), (724, .ifCond .ne 15, 3), (727, .aload_n 3, 1), (728, .iconst 0, 1), (729, .laload, 1), (730, .iload 6, 2), (732, .i2l, 1), (733, .lcmp, 1), (734, .ifCond .eq 5, 3), (737, .iconst 0, 1), (738, .ireturn, 1), (739, .goto 1190, 3), (742, .aload_n 1, 1), (743, .aload_n 0, 1), (744, .iload 4, 2), (746, .iconst 1, 1), (747, .iadd, 1), (748, .iaload, 1), (749, .aload_n 0, 1), (750, .iload 4, 2), (752, .iconst 2, 1), (753, .iadd, 1), (754, .iaload, 1), (755, .aload_n 3, 1), (756, .invokestatic 110, 3), (759, .istore 5, 2), (761, .aload_n 2, 1), (762, .aload_n 0, 1), (763, .iload 4, 2), (765, .iconst 1, 1), (766, .iadd, 1), (767, .iaload, 1), (768, .aload_n 0, 1), (769, .iload 4, 2), (771, .iconst 2, 1), (772, .iadd, 1), (773, .iaload, 1), (774, .invokevirtual 112, 3), (777, .istore 6, 2), (779, .aload_n 2, 1), (780, .invokevirtual 82, 3), (783, .iload 5, 2), (785, .if_icmp .eq 5, 3), (788, .iconst 0, 1), (789, .ireturn, 1), (790, .iload 5, 2), (792, .ifCond .ne 15, 3), (795, .aload_n 3, 1), (796, .iconst 0, 1), (797, .laload, 1), (798, .iload 6, 2), (800, .i2l, 1), (801, .lcmp, 1), (802, .ifCond .eq 5, 3), (805, .iconst 0, 1), (806, .ireturn, 1), (807, .goto 1122, 3), (810, .aload_n 1, 1), (811, .aload_n 0, 1), (812, .iload 4, 2), (814, .iconst 1, 1), (815, .iadd, 1), (816, .iaload, 1), (817, .aload_n 0, 1), (818, .iload 4, 2), (820, .iconst 2, 1), (821, .iadd, 1), (822, .iaload, 1), (823, .aload_n 0, 1), (824, .iload 4, 2), (826, .iconst 3, 1), (827, .iadd, 1), (828, .iaload, 1), (829, .aload_n 3, 1), (830, .invokestatic 113, 3), (833, .istore 5, 2), (835, .aload_n 2, 1), (836, .aload_n 0, 1), (837, .iload 4, 2), (839, .iconst 1, 1), (840, .iadd, 1), (841, .iaload, 1), (842, .aload_n 0, 1), (843, .iload 4, 2), (845, .iconst 2, 1), (846, .iadd, 1), (847, .iaload, 1), (848, .aload_n 0, 1), (849, .iload 4, 2), (851, .iconst 3, 1), (852, .iadd, 1), (853, .iaload, 1), (854, .invokevirtual 115, 3), (857, .istore 6, 2), (859, .aload_n 2, 1), (860, .invokevirtual 82, 3), (863, .iload 5, 2), (865, .if_icmp .eq 5, 3), (868, .iconst 0, 1), (869, .ireturn, 1), (870, .iload 5, 2), (872, .ifCond .ne 15, 3), (875, .aload_n 3, 1), (876, .iconst 0, 1), (877, .laload, 1), (878, .iload 6, 2), (880, .i2l, 1), (881, .lcmp, 1), (882, .ifCond .eq 5, 3), (885, .iconst 0, 1), (886, .ireturn, 1), (887, .goto 1042, 3), (890, .aload_n 1, 1), (891, .aload_n 0, 1), (892, .iload 4, 2), (894, .iconst 1, 1), (895, .iadd, 1), (896, .iaload, 1), (897, .aload_n 0, 1), (898, .iload 4, 2), (900, .iconst 2, 1), (901, .iadd, 1), (902, .iaload, 1), (903, .aload_n 3, 1), (904, .invokestatic 116, 3), (907, .istore 5, 2), (909, .aload_n 2, 1), (910, .aload_n 0, 1), (911, .iload 4, 2), (913, .iconst 1, 1), (914, .iadd, 1), (915, .iaload, 1), (916, .aload_n 0, 1), (917, .iload 4, 2), (919, .iconst 2, 1), (920, .iadd, 1), (921, .iaload, 1), (922, .invokevirtual 118, 3), (925, .istore 6, 2), (927, .aload_n 2, 1), (928, .invokevirtual 82, 3), (931, .iload 5, 2), (933, .if_icmp .eq 5, 3), (936, .iconst 0, 1), (937, .ireturn, 1), (938, .iload 5, 2), (940, .ifCond .ne 15, 3), (943, .aload_n 3, 1), (944, .iconst 0, 1), (945, .laload, 1), (946, .iload 6, 2), (948, .i2l, 1), (949, .lcmp, 1), (950, .ifCond .eq 5, 3), (953, .iconst 0, 1), (954, .ireturn, 1), (955, .goto 974, 3), (958, .aload_n 1, 1), (959, .aload_n 0, 1), (960, .iload 4, 2), (962, .iconst 1, 1), (963, .iadd, 1), (964, .iaload, 1), (965, .aload_n 0, 1), (966, .iload 4, 2), (968, .iconst 2, 1), (969, .iadd, 1), (970, .iaload, 1), (971, .aload_n 0, 1), (972, .iload 4, 2), (974, .iconst 3, 1), (975, .iadd, 1), (976, .iaload, 1), (977, .aload_n 3, 1), (978, .invokestatic 119, 3), (981, .istore 5, 2), (983, .aload_n 2, 1), (984, .aload_n 0, 1), (985, .iload 4, 2), (987, .iconst 1, 1), (988, .iadd, 1), (989, .iaload, 1), (990, .aload_n 0, 1), (991, .iload 4, 2), (993, .iconst 2, 1), (994, .iadd, 1), (995, .iaload, 1), (996, .aload_n 0, 1), (997, .iload 4, 2), (999, .iconst 3, 1), (1000, .iadd, 1), (1001, .iaload, 1), (1002, .invokevirtual 121, 3), (1005, .istore 6, 2), (1007, .aload_n 2, 1), (1008, .invokevirtual 82, 3), (1011, .iload 5, 2), (1013, .if_icmp .eq 5, 3), (1016, .iconst 0, 1), (1017, .ireturn, 1), (1018, .iload 5, 2), (1020, .ifCond .ne 15, 3), (1023, .aload_n 3, 1), (1024, .iconst 0, 1), (1025, .laload, 1), (1026, .iload 6, 2), (1028, .i2l, 1), (1029, .lcmp, 1), (1030, .ifCond .eq 5, 3), (1033, .iconst 0, 1), (1034, .ireturn, 1), (1035, .goto 894, 3), (1038, .aload_n 1, 1), (1039, .aload_n 0, 1), (1040, .iload 4, 2), (1042, .iconst 1, 1), (1043, .iadd, 1), (1044, .iaload, 1), (1045, .aload_n 0, 1), (1046, .iload 4, 2), (1048, .iconst 2, 1), (1049, .iadd, 1), (1050, .iaload, 1), (1051, .aload_n 3, 1), (1052, .invokestatic 122, 3), (1055, .istore 5, 2), (1057, .aload_n 2, 1), (1058, .aload_n 0, 1), (1059, .iload 4, 2), (1061, .iconst 1, 1), (1062, .iadd, 1), (1063, .iaload, 1), (1064, .aload_n 0, 1), (1065, .iload 4, 2), (1067, .iconst 2, 1), (1068, .iadd, 1), (1069, .iaload, 1), (1070, .invokevirtual 124, 3), (1073, .istore 6, 2), (1075, .aload_n 2, 1), (1076, .invokevirtual 82, 3), (1079, .iload 5, 2), (1081, .if_icmp .eq 5, 3), (1084, .iconst 0, 1), (1085, .ireturn, 1), (1086, .iload 5, 2), (1088, .ifCond .ne 15, 3), (1091, .aload_n 3, 1), (1092, .iconst 0, 1), (1093, .laload, 1), (1094, .iload 6, 2), (1096, .i2l, 1), (1097, .lcmp, 1), (1098, .ifCond .eq 5, 3), (1101, .iconst 0, 1), (1102, .ireturn, 1), (1103, .goto 826, 3), (1106, .aload_n 1, 1), (1107, .aload_n 0, 1), (1108, .iload 4, 2), (1110, .iconst 1, 1), (1111, .iadd, 1), (1112, .iaload, 1), (1113, .invokevirtual 125, 3), (1116, .aload_n 2, 1), (1117, .aload_n 0, 1), (1118, .iload 4, 2), (1120, .iconst 1, 1), (1121, .iadd, 1), (1122, .iaload, 1), (1123, .invokevirtual 128, 3), (1126, .if_icmp .eq 803, 3), (1129, .iconst 0, 1), (1130, .ireturn, 1), (1131, .aload_n 1, 1), (1132, .aload_n 0, 1), (1133, .iload 4, 2), (1135, .iconst 1, 1), (1136, .iadd, 1), (1137, .iaload, 1), (1138, .aload_n 0, 1), (1139, .iload 4, 2), (1141, .iconst 2, 1), (1142, .iadd, 1), (1143, .iaload, 1), (1144, .invokevirtual 129, 3), (1147, .aload_n 2, 1), (1148, .aload_n 0, 1), (1149, .iload 4, 2), (1151, .iconst 1, 1), (1152, .iadd, 1), (1153, .iaload, 1), (1154, .aload_n 0, 1), (1155, .iload 4, 2), (1157, .iconst 2, 1), (1158, .iadd, 1), (1159, .iaload, 1), (1160, .invokevirtual 132, 3), (1163, .if_icmp .eq 766, 3), (1166, .iconst 0, 1), (1167, .ireturn, 1), (1168, .aload_n 1, 1), (1169, .aload_n 0, 1), (1170, .iload 4, 2), (1172, .iconst 1, 1), (1173, .iadd, 1), (1174, .iaload, 1), (1175, .aload_n 0, 1), (1176, .iload 4, 2), (1178, .iconst 2, 1), (1179, .iadd, 1), (1180, .iaload, 1), (1181, .aload_n 0, 1), (1182, .iload 4, 2), (1184, .iconst 3, 1), (1185, .iadd, 1), (1186, .iaload, 1), (1187, .aload_n 0, 1), (1188, .iload 4, 2), (1190, .iconst 4, 1), (1191, .iadd, 1), (1192, .iaload, 1), (1193, .aload_n 0, 1), (1194, .iload 4, 2), (1196, .iconst 5, 1), (1197, .iadd, 1), (1198, .iaload, 1), (1199, .invokevirtual 133, 3), (1202, .aload_n 2, 1), (1203, .aload_n 0, 1), (1204, .iload 4, 2), (1206, .iconst 1, 1), (1207, .iadd, 1), (1208, .iaload, 1), (1209, .aload_n 0, 1), (1210, .iload 4, 2), (1212, .iconst 2, 1), (1213, .iadd, 1), (1214, .iaload, 1), (1215, .aload_n 0, 1), (1216, .iload 4, 2), (1218, .iconst 3, 1), (1219, .iadd, 1), (1220, .iaload, 1), (1221, .aload_n 0, 1), (1222, .iload 4, 2), (1224, .iconst 4, 1), (1225, .iadd, 1), (1226, .iaload, 1), (1227, .aload_n 0, 1), (1228, .iload 4, 2), (1230, .iconst 5, 1), (1231, .iadd, 1), (1232, .iaload, 1), (1233, .invokevirtual 136, 3), (1236, .if_icmp .eq 693, 3), (1239, .iconst 0, 1), (1240, .ireturn, 1), (1241, .aload_n 1, 1), (1242, .aload_n 0, 1), (1243, .iload 4, 2), (1245, .iconst 1, 1), (1246, .iadd, 1), (1247, .iaload, 1), (1248, .aload_n 0, 1), (1249, .iload 4, 2), (1251, .iconst 2, 1), (1252, .iadd, 1), (1253, .iaload, 1), (1254, .invokevirtual 137, 3), (1257, .aload_n 2, 1), (1258, .aload_n 0, 1), (1259, .iload 4, 2), (1261, .iconst 1, 1), (1262, .iadd, 1), (1263, .iaload, 1), (1264, .aload_n 0, 1), (1265, .iload 4, 2), (1267, .iconst 2, 1), (1268, .iadd, 1), (1269, .iaload, 1), (1270, .invokevirtual 140, 3), (1273, .if_icmp .eq 656, 3), (1276, .iconst 0, 1), (1277, .ireturn, 1), (1278, .aload_n 1, 1), (1279, .aload_n 0, 1), (1280, .iload 4, 2), (1282, .iconst 1, 1), (1283, .iadd, 1), (1284, .iaload, 1), (1285, .aload_n 0, 1), (1286, .iload 4, 2), (1288, .iconst 2, 1), (1289, .iadd, 1), (1290, .iaload, 1), (1291, .aload_n 0, 1), (1292, .iload 4, 2), (1294, .iconst 3, 1), (1295, .iadd, 1), (1296, .iaload, 1), (1297, .invokevirtual 141, 3), (1300, .aload_n 2, 1), (1301, .aload_n 0, 1), (1302, .iload 4, 2), (1304, .iconst 1, 1), (1305, .iadd, 1), (1306, .iaload, 1), (1307, .aload_n 0, 1), (1308, .iload 4, 2), (1310, .iconst 2, 1), (1311, .iadd, 1), (1312, .iaload, 1), (1313, .aload_n 0, 1), (1314, .iload 4, 2), (1316, .iconst 3, 1), (1317, .iadd, 1), (1318, .iaload, 1), (1319, .invokevirtual 144, 3), (1322, .if_icmp .eq 607, 3), (1325, .iconst 0, 1), (1326, .ireturn, 1), (1327, .aload_n 1, 1), (1328, .aload_n 0, 1), (1329, .iload 4, 2), (1331, .iconst 1, 1), (1332, .iadd, 1), (1333, .iaload, 1), (1334, .invokevirtual 145, 3), (1337, .aload_n 2, 1), (1338, .aload_n 0, 1), (1339, .iload 4, 2), (1341, .iconst 1, 1), (1342, .iadd, 1), (1343, .iaload, 1), (1344, .invokevirtual 148, 3), (1347, .if_icmp .eq 582, 3), (1350, .iconst 0, 1), (1351, .ireturn, 1), (1352, .aload_n 1, 1), (1353, .aload_n 0, 1), (1354, .iload 4, 2), (1356, .iconst 1, 1), (1357, .iadd, 1), (1358, .iaload, 1), (1359, .aload_n 0, 1), (1360, .iload 4, 2), (1362, .iconst 2, 1), (1363, .iadd, 1), (1364, .iaload, 1), (1365, .aload_n 0, 1), (1366, .iload 4, 2), (1368, .iconst 3, 1), (1369, .iadd, 1), (1370, .iaload, 1), (1371, .invokevirtual 149, 3), (1374, .aload_n 2, 1), (1375, .aload_n 0, 1), (1376, .iload 4, 2), (1378, .iconst 1, 1), (1379, .iadd, 1), (1380, .iaload, 1), (1381, .aload_n 0, 1), (1382, .iload 4, 2), (1384, .iconst 2, 1), (1385, .iadd, 1), (1386, .iaload, 1), (1387, .aload_n 0, 1), (1388, .iload 4, 2), (1390, .iconst 3, 1), (1391, .iadd, 1), (1392, .iaload, 1), (1393, .invokevirtual 152, 3), (1396, .if_icmp .eq 533, 3), (1399, .iconst 0, 1), (1400, .ireturn, 1), (1401, .aload_n 1, 1), (1402, .aload_n 0, 1), (1403, .iload 4, 2), (1405, .iconst 1, 1), (1406, .iadd, 1), (1407, .iaload, 1), (1408, .invokevirtual 153, 3), (1411, .aload_n 2, 1), (1412, .aload_n 0, 1), (1413, .iload 4, 2), (1415, .iconst 1, 1), (1416, .iadd, 1), (1417, .iaload, 1), (1418, .invokevirtual 156, 3), (1421, .if_icmp .eq 508, 3), (1424, .iconst 0, 1), (1425, .ireturn, 1), (1426, .aload_n 1, 1), (1427, .aload_n 0, 1), (1428, .iload 4, 2), (1430, .iconst 1, 1), (1431, .iadd, 1), (1432, .iaload, 1), (1433, .aload_n 0, 1), (1434, .iload 4, 2), (1436, .iconst 2, 1), (1437, .iadd, 1), (1438, .iaload, 1), (1439, .invokevirtual 157, 3), (1442, .aload_n 2, 1), (1443, .aload_n 0, 1), (1444, .iload 4, 2), (1446, .iconst 1, 1), (1447, .iadd, 1), (1448, .iaload, 1), (1449, .aload_n 0, 1), (1450, .iload 4, 2), (1452, .iconst 2, 1), (1453, .iadd, 1), (1454, .iaload, 1), (1455, .invokevirtual 160, 3), (1458, .if_icmp .eq 471, 3), (1461, .iconst 0, 1), (1462, .ireturn, 1), (1463, .aload_n 1, 1), (1464, .invokevirtual 161, 3), (1467, .aload_n 2, 1), (1468, .invokevirtual 164, 3), (1471, .if_icmp .eq 458, 3), (1474, .iconst 0, 1), (1475, .ireturn, 1), (1476, .aload_n 1, 1), (1477, .aload_n 0, 1), (1478, .iload 4, 2), (1480, .iconst 1, 1), (1481, .iadd, 1), (1482, .iaload, 1), (1483, .aload_n 0, 1), (1484, .iload 4, 2), (1486, .iconst 2, 1), (1487, .iadd, 1), (1488, .iaload, 1), (1489, .aload_n 3, 1), (1490, .invokestatic 165, 3), (1493, .istore 5, 2), (1495, .aload_n 2, 1), (1496, .aload_n 0, 1), (1497, .iload 4, 2), (1499, .iconst 1, 1), (1500, .iadd, 1), (1501, .iaload, 1), (1502, .aload_n 0, 1), (1503, .iload 4, 2), (1505, .iconst 2, 1), (1506, .iadd, 1), (1507, .iaload, 1), (1508, .invokevirtual 167, 3), (1511, .istore 6, 2), (1513, .aload_n 2, 1), (1514, .invokevirtual 82, 3), (1517, .iload 5, 2), (1519, .if_icmp .eq 5, 3), (1522, .iconst 0, 1), (1523, .ireturn, 1), (1524, .iload 5, 2), (1526, .ifCond .ne 15, 3), (1529, .aload_n 3, 1), (1530, .iconst 0, 1), (1531, .laload, 1), (1532, .iload 6, 2), (1534, .i2l, 1), (1535, .lcmp, 1), (1536, .ifCond .eq 5, 3), (1539, .iconst 0, 1), (1540, .ireturn, 1), (1541, .goto 388, 3), (1544, .aload_n 1, 1), (1545, .aload_n 0, 1), (1546, .iload 4, 2), (1548, .iconst 1, 1), (1549, .iadd, 1), (1550, .iaload, 1), (1551, .aload_n 0, 1), (1552, .iload 4, 2), (1554, .iconst 2, 1), (1555, .iadd, 1), (1556, .iaload, 1), (1557, .aload_n 3, 1), (1558, .invokestatic 168, 3), (1561, .istore 5, 2), (1563, .aload_n 2, 1), (1564, .aload_n 0, 1), (1565, .iload 4, 2), (1567, .iconst 1, 1), (1568, .iadd, 1), (1569, .iaload, 1), (1570, .aload_n 0, 1), (1571, .iload 4, 2), (1573, .iconst 2, 1), (1574, .iadd, 1), (1575, .iaload, 1), (1576, .invokevirtual 170, 3), (1579, .istore 6, 2), (1581, .aload_n 2, 1), (1582, .invokevirtual 82, 3), (1585, .iload 5, 2), (1587, .if_icmp .eq 5, 3), (1590, .iconst 0, 1), (1591, .ireturn, 1), (1592, .iload 5, 2), (1594, .ifCond .ne 15, 3), (1597, .aload_n 3, 1), (1598, .iconst 0, 1), (1599, .laload, 1), (1600, .iload 6, 2), (1602, .i2l, 1), (1603, .lcmp, 1), (1604, .ifCond .eq 5, 3), (1607, .iconst 0, 1), (1608, .ireturn, 1), (1609, .goto 320, 3), (1612, .aload_n 1, 1), (1613, .aload_n 0, 1), (1614, .iload 4, 2), (1616, .iconst 1, 1), (1617, .iadd, 1), (1618, .iaload, 1), (1619, .aload_n 0, 1), (1620, .iload 4, 2), (1622, .iconst 2, 1), (1623, .iadd, 1), (1624, .iaload, 1), (1625, .aload_n 3, 1), (1626, .invokestatic 171, 3), (1629, .istore 5, 2), (1631, .aload_n 2, 1), (1632, .aload_n 0, 1), (1633, .iload 4, 2), (1635, .iconst 1, 1), (1636, .iadd, 1), (1637, .iaload, 1), (1638, .aload_n 0, 1), (1639, .iload 4, 2), (1641, .iconst 2, 1), (1642, .iadd, 1), (1643, .iaload, 1), (1644, .invokevirtual 173, 3), (1647, .istore 6, 2), (1649, .aload_n 2, 1), (1650, .invokevirtual 82, 3), (1653, .iload 5, 2), (1655, .if_icmp .eq 5, 3), (1658, .iconst 0, 1), (1659, .ireturn, 1), (1660, .iload 5, 2), (1662, .ifCond .ne 15, 3), (1665, .aload_n 3, 1), (1666, .iconst 0, 1), (1667, .laload, 1), (1668, .iload 6, 2), (1670, .i2l, 1), (1671, .lcmp, 1), (1672, .ifCond .eq 5, 3), (1675, .iconst 0, 1), (1676, .ireturn, 1), (1677, .goto 252, 3), (1680, .aload_n 1, 1), (1681, .aload_n 0, 1), (1682, .iload 4, 2), (1684, .iconst 1, 1), (1685, .iadd, 1), (1686, .iaload, 1), (1687, .aload_n 0, 1), (1688, .iload 4, 2), (1690, .iconst 2, 1), (1691, .iadd, 1), (1692, .iaload, 1), (1693, .aload_n 0, 1), (1694, .iload 4, 2), (1696, .iconst 3, 1), (1697, .iadd, 1), (1698, .iaload, 1), (1699, .ifCond .eq 7, 3), (1702, .iconst 1, 1), (1703, .goto 4, 3), (1706, .iconst 0, 1), (1707, .invokevirtual 174, 3), (1710, .aload_n 2, 1), (1711, .aload_n 0, 1), (1712, .iload 4, 2), (1714, .iconst 1, 1), (1715, .iadd, 1), (1716, .iaload, 1), (1717, .aload_n 0, 1), (1718, .iload 4, 2), (1720, .iconst 2, 1), (1721, .iadd, 1), (1722, .iaload, 1), (1723, .aload_n 0, 1), (1724, .iload 4, 2), (1726, .iconst 3, 1), (1727, .iadd, 1), (1728, .iaload, 1), (1729, .ifCond .eq 7, 3), (1732, .iconst 1, 1), (1733, .goto 4, 3), (1736, .iconst 0, 1), (1737, .invokevirtual 178, 3), (1740, .if_icmp .eq 189, 3), (1743, .iconst 0, 1), (1744, .ireturn, 1), (1745, .aload_n 1, 1), (1746, .invokevirtual 179, 3), (1749, .aload_n 2, 1), (1750, .invokevirtual 182, 3), (1753, .if_icmp .eq 176, 3), (1756, .iconst 0, 1), (1757, .ireturn, 1), (1758, .aload_n 1, 1), (1759, .aload_n 0, 1), (1760, .iload 4, 2), (1762, .iconst 1, 1), (1763, .iadd, 1), (1764, .iaload, 1), (1765, .aload_n 3, 1), (1766, .invokestatic 183, 3), (1769, .istore 5, 2), (1771, .aload_n 2, 1), (1772, .aload_n 0, 1), (1773, .iload 4, 2), (1775, .iconst 1, 1), (1776, .iadd, 1), (1777, .iaload, 1), (1778, .invokevirtual 185, 3), (1781, .istore 6, 2), (1783, .aload_n 2, 1), (1784, .invokevirtual 82, 3), (1787, .iload 5, 2), (1789, .if_icmp .eq 5, 3), (1792, .iconst 0, 1), (1793, .ireturn, 1), (1794, .iload 5, 2), (1796, .ifCond .ne 15, 3), (1799, .aload_n 3, 1), (1800, .iconst 0, 1), (1801, .laload, 1), (1802, .iload 6, 2), (1804, .i2l, 1), (1805, .lcmp, 1), (1806, .ifCond .eq 5, 3), (1809, .iconst 0, 1), (1810, .ireturn, 1), (1811, .goto 118, 3), (1814, .aload_n 1, 1), (1815, .invokevirtual 186, 3), (1818, .aload_n 2, 1), (1819, .invokevirtual 189, 3), (1822, .goto 107, 3), (1825, .aload_n 1, 1), (1826, .aload_n 0, 1), (1827, .iload 4, 2), (1829, .iconst 1, 1), (1830, .iadd, 1), (1831, .iaload, 1), (1832, .aload_n 0, 1), (1833, .iload 4, 2), (1835, .iconst 2, 1), (1836, .iadd, 1), (1837, .iaload, 1), (1838, .aload_n 0, 1), (1839, .iload 4, 2), (1841, .iconst 3, 1), (1842, .iadd, 1), (1843, .iaload, 1), (1844, .aload_n 3, 1), (1845, .invokestatic 190, 3), (1848, .istore 5, 2), (1850, .aload_n 2, 1), (1851, .aload_n 0, 1), (1852, .iload 4, 2), (1854, .iconst 1, 1), (1855, .iadd, 1), (1856, .iaload, 1), (1857, .aload_n 0, 1), (1858, .iload 4, 2), (1860, .iconst 2, 1), (1861, .iadd, 1), (1862, .iaload, 1), (1863, .aload_n 0, 1), (1864, .iload 4, 2), (1866, .iconst 3, 1), (1867, .iadd, 1), (1868, .iaload, 1), (1869, .invokevirtual 192, 3), (1872, .istore 6, 2), (1874, .aload_n 2, 1), (1875, .invokevirtual 82, 3), (1878, .iload 5, 2), (1880, .if_icmp .eq 5, 3), (1883, .iconst 0, 1), (1884, .ireturn, 1), (1885, .iload 5, 2), (1887, .ifCond .ne 15, 3), (1890, .aload_n 3, 1), (1891, .iconst 0, 1), (1892, .laload, 1), (1893, .iload 6, 2), (1895, .i2l, 1), (1896, .lcmp, 1), (1897, .ifCond .eq 5, 3), (1900, .iconst 0, 1), (1901, .ireturn, 1), (1902, .goto 27, 3), (1905, .aload_n 1, 1), (1906, .invokevirtual 193, 3), (1909, .aload_n 2, 1), (1910, .invokevirtual 196, 3), (1913, .goto 16, 3), (1916, .aload_n 1, 1), (1917, .invokevirtual 197, 3), (1920, .aload_n 2, 1), (1921, .invokevirtual 201, 3), (1924, .if_icmp .eq 5, 3), (1927, .iconst 0, 1), (1928, .ireturn, 1), (1929, .iinc 4 6, 3), (1932, .goto (-1909), 3), (1935, .iconst 1, 1), (1936, .ireturn, 1)]
theorem t_L_law : jv_dec cL_law t0_L_law = true := by decide +kernel
def M_L_law : jm := (yL_law, cL_law, 7, (some .boolean), 12, 339, [])
theorem ck_L_8 : Cond.classLink RL 8 RX12 ∈ lw_tbl := (jv_at 188 (by decide +kernel))
theorem ib_X12 : Cond.instantiable RX12 10 ∈ lw_tbl := (jv_at 189 (by decide +kernel))
theorem iz_X12 : Cond.initialized RX12 ∈ lw_tbl := (jv_at 161 (by decide +kernel))
theorem df_X12 : ∀ j, j < 10 → defaultValue (tyX12 j) = vp_V [.null, .null, .null, .null, .null, .null, .int 0, .int 0, .null, .int 0] j := by decide +kernel
theorem lk_L_67 : Cond.methodLink RL 67 M_X12_init.1 ∈ lw_tbl := (jv_at 190 (by decide +kernel))
set_option maxRecDepth 20000 in
theorem me_X12_init : jv_me M_X12_init 0 := ⟨(jv_in1 (List.mem_of_getElem? (i := 32) rfl)), (jv_at 161 (by decide +kernel)), ⟨by decide, by decide⟩, by decide +kernel⟩
theorem ck_L_68 : Cond.classLink RL 68 RX13 ∈ lw_tbl := (jv_at 1346 (by decide +kernel))
theorem ib_X13 : Cond.instantiable RX13 36 ∈ lw_tbl := (jv_at 1347 (by decide +kernel))
theorem iz_X13 : Cond.initialized RX13 ∈ lw_tbl := (jv_at 172 (by decide +kernel))
theorem df_X13 : ∀ j, j < 36 → defaultValue (tyX13 j) = vp_V [.null, .int 0, .null, .null, .null, .int 0, .int 0, .int 0, .int 0, .int 0, .int 0, .int 0, .int 0, .int 0, .int 0, .null, .int 0, .null, .int 0, .null, .null, .null, .int 0, .null, .null, .null, .int 0, .int 0, .int 0, .int 0, .null, .null, .null, .null, .null, .null] j := by decide +kernel
theorem lk_L_70 : Cond.methodLink RL 70 M_X13_init.1 ∈ lw_tbl := (jv_at 1348 (by decide +kernel))
set_option maxRecDepth 20000 in
theorem me_X13_init : jv_me M_X13_init 0 := ⟨(jv_in5 (List.mem_of_getElem? (i := 230) rfl)), (jv_at 172 (by decide +kernel)), ⟨by decide, by decide⟩, by decide +kernel⟩
theorem ac_J : Cond.arrayClass .long ∈ lw_tbl := (jv_at 1912 (by decide +kernel))
theorem lk_L_197 : Cond.methodLink RL 197 M_X12_restore.1 ∈ lw_tbl := (jv_at 932 (by decide +kernel))
set_option maxRecDepth 20000 in
theorem me_X12_restore : jv_me M_X12_restore 0 := ⟨(jv_in4 (List.mem_of_getElem? (i := 55) rfl)), (jv_at 161 (by decide +kernel)), ⟨by decide, by decide⟩, by decide +kernel⟩
theorem lk_L_201 : Cond.methodLink RL 201 M_X13_restore.1 ∈ lw_tbl := (jv_at 1908 (by decide +kernel))
set_option maxRecDepth 20000 in
theorem me_X13_restore : jv_me M_X13_restore 0 := ⟨(jv_in8 (List.mem_of_getElem? (i := 71) rfl)), (jv_at 172 (by decide +kernel)), ⟨by decide, by decide⟩, by decide +kernel⟩
theorem mv_X13_restore : jv_mv M_X13_restore := ⟨(jv_at 1909 (by decide +kernel)), (jv_at 1910 (by decide +kernel))⟩
theorem mv_X12_restore : jv_mv M_X12_restore := ⟨(jv_at 933 (by decide +kernel)), (jv_at 934 (by decide +kernel))⟩
theorem lk_L_193 : Cond.methodLink RL 193 M_X12_image.1 ∈ lw_tbl := (jv_at 918 (by decide +kernel))
set_option maxRecDepth 20000 in
theorem me_X12_image : jv_me M_X12_image 0 := ⟨(jv_in4 (List.mem_of_getElem? (i := 41) rfl)), (jv_at 161 (by decide +kernel)), ⟨by decide, by decide⟩, by decide +kernel⟩
theorem lk_L_196 : Cond.methodLink RL 196 M_X13_image.1 ∈ lw_tbl := (jv_at 1904 (by decide +kernel))
set_option maxRecDepth 20000 in
theorem me_X13_image : jv_me M_X13_image 0 := ⟨(jv_in8 (List.mem_of_getElem? (i := 67) rfl)), (jv_at 172 (by decide +kernel)), ⟨by decide, by decide⟩, by decide +kernel⟩
theorem mv_X13_image : jv_mv M_X13_image := ⟨(jv_at 1905 (by decide +kernel)), (jv_at 1906 (by decide +kernel))⟩
theorem mv_X12_image : jv_mv M_X12_image := ⟨(jv_at 919 (by decide +kernel)), (jv_at 920 (by decide +kernel))⟩
theorem lk_L_190 : Cond.methodLink RL 190 M_L_years.1 ∈ lw_tbl := (jv_at 1314 (by decide +kernel))
set_option maxRecDepth 20000 in
theorem me_L_years : jv_meH M_L_years 5 := ⟨(jv_in5 (List.mem_of_getElem? (i := 196) rfl)), (jv_at 160 (by decide +kernel)), ⟨by decide, by decide⟩, by decide +kernel⟩
theorem lk_L_192 : Cond.methodLink RL 192 M_X13_years.1 ∈ lw_tbl := (jv_at 1886 (by decide +kernel))
set_option maxRecDepth 20000 in
theorem me_X13_years : jv_me M_X13_years 3 := ⟨(jv_in8 (List.mem_of_getElem? (i := 49) rfl)), (jv_at 172 (by decide +kernel)), ⟨by decide, by decide⟩, by decide +kernel⟩
theorem lk_L_82 : Cond.methodLink RL 82 M_X13_thrown.1 ∈ lw_tbl := (jv_at 1482 (by decide +kernel))
set_option maxRecDepth 20000 in
theorem me_X13_thrown : jv_me M_X13_thrown 0 := ⟨(jv_in6 (List.mem_of_getElem? (i := 125) rfl)), (jv_at 172 (by decide +kernel)), ⟨by decide, by decide⟩, by decide +kernel⟩
theorem mv_X13_thrown : jv_mv M_X13_thrown := ⟨(jv_at 1483 (by decide +kernel)), (jv_at 1484 (by decide +kernel))⟩
theorem mv_X13_years : jv_mv M_X13_years := ⟨(jv_at 1887 (by decide +kernel)), (jv_at 1888 (by decide +kernel))⟩
theorem ms_L_years : jv_ms M_L_years := (jv_at 1315 (by decide +kernel))
theorem lk_L_186 : Cond.methodLink RL 186 M_X12_forget.1 ∈ lw_tbl := (jv_at 914 (by decide +kernel))
set_option maxRecDepth 20000 in
theorem me_X12_forget : jv_me M_X12_forget 0 := ⟨(jv_in4 (List.mem_of_getElem? (i := 37) rfl)), (jv_at 161 (by decide +kernel)), ⟨by decide, by decide⟩, by decide +kernel⟩
theorem lk_L_189 : Cond.methodLink RL 189 M_X13_forget.1 ∈ lw_tbl := (jv_at 1858 (by decide +kernel))
set_option maxRecDepth 20000 in
theorem me_X13_forget : jv_me M_X13_forget 0 := ⟨(jv_in8 (List.mem_of_getElem? (i := 21) rfl)), (jv_at 172 (by decide +kernel)), ⟨by decide, by decide⟩, by decide +kernel⟩
theorem mv_X13_forget : jv_mv M_X13_forget := ⟨(jv_at 1859 (by decide +kernel)), (jv_at 1860 (by decide +kernel))⟩
theorem mv_X12_forget : jv_mv M_X12_forget := ⟨(jv_at 915 (by decide +kernel)), (jv_at 916 (by decide +kernel))⟩
theorem lk_L_183 : Cond.methodLink RL 183 M_L_look.1 ∈ lw_tbl := (jv_at 1301 (by decide +kernel))
set_option maxRecDepth 20000 in
theorem me_L_look : jv_meH M_L_look 3 := ⟨(jv_in5 (List.mem_of_getElem? (i := 183) rfl)), (jv_at 160 (by decide +kernel)), ⟨by decide, by decide⟩, by decide +kernel⟩
theorem lk_L_185 : Cond.methodLink RL 185 M_X13_look.1 ∈ lw_tbl := (jv_at 1878 (by decide +kernel))
set_option maxRecDepth 20000 in
theorem me_X13_look : jv_me M_X13_look 1 := ⟨(jv_in8 (List.mem_of_getElem? (i := 41) rfl)), (jv_at 172 (by decide +kernel)), ⟨by decide, by decide⟩, by decide +kernel⟩
theorem mv_X13_look : jv_mv M_X13_look := ⟨(jv_at 1879 (by decide +kernel)), (jv_at 1880 (by decide +kernel))⟩
theorem ms_L_look : jv_ms M_L_look := (jv_at 1302 (by decide +kernel))
theorem lk_L_179 : Cond.methodLink RL 179 M_X12_fits.1 ∈ lw_tbl := (jv_at 894 (by decide +kernel))
set_option maxRecDepth 20000 in
theorem me_X12_fits : jv_me M_X12_fits 0 := ⟨(jv_in4 (List.mem_of_getElem? (i := 17) rfl)), (jv_at 161 (by decide +kernel)), ⟨by decide, by decide⟩, by decide +kernel⟩
theorem lk_L_182 : Cond.methodLink RL 182 M_X13_fits.1 ∈ lw_tbl := (jv_at 1862 (by decide +kernel))
set_option maxRecDepth 20000 in
theorem me_X13_fits : jv_me M_X13_fits 0 := ⟨(jv_in8 (List.mem_of_getElem? (i := 25) rfl)), (jv_at 172 (by decide +kernel)), ⟨by decide, by decide⟩, by decide +kernel⟩
theorem mv_X13_fits : jv_mv M_X13_fits := ⟨(jv_at 1863 (by decide +kernel)), (jv_at 1864 (by decide +kernel))⟩
theorem mv_X12_fits : jv_mv M_X12_fits := ⟨(jv_at 895 (by decide +kernel)), (jv_at 896 (by decide +kernel))⟩
theorem lk_L_174 : Cond.methodLink RL 174 M_X12_note.1 ∈ lw_tbl := (jv_at 884 (by decide +kernel))
set_option maxRecDepth 20000 in
theorem me_X12_note : jv_me M_X12_note 3 := ⟨(jv_in4 (List.mem_of_getElem? (i := 7) rfl)), (jv_at 161 (by decide +kernel)), ⟨by decide, by decide⟩, by decide +kernel⟩
theorem lk_L_178 : Cond.methodLink RL 178 M_X13_note.1 ∈ lw_tbl := (jv_at 1854 (by decide +kernel))
set_option maxRecDepth 20000 in
theorem me_X13_note : jv_me M_X13_note 3 := ⟨(jv_in8 (List.mem_of_getElem? (i := 17) rfl)), (jv_at 172 (by decide +kernel)), ⟨by decide, by decide⟩, by decide +kernel⟩
theorem mv_X13_note : jv_mv M_X13_note := ⟨(jv_at 1855 (by decide +kernel)), (jv_at 1856 (by decide +kernel))⟩
theorem mv_X12_note : jv_mv M_X12_note := ⟨(jv_at 885 (by decide +kernel)), (jv_at 886 (by decide +kernel))⟩
theorem lk_L_171 : Cond.methodLink RL 171 M_L_steps.1 ∈ lw_tbl := (jv_at 1294 (by decide +kernel))
set_option maxRecDepth 20000 in
theorem me_L_steps : jv_meH M_L_steps 4 := ⟨(jv_in5 (List.mem_of_getElem? (i := 176) rfl)), (jv_at 160 (by decide +kernel)), ⟨by decide, by decide⟩, by decide +kernel⟩
theorem lk_L_173 : Cond.methodLink RL 173 M_X13_steps.1 ∈ lw_tbl := (jv_at 1850 (by decide +kernel))
set_option maxRecDepth 20000 in
theorem me_X13_steps : jv_me M_X13_steps 2 := ⟨(jv_in8 (List.mem_of_getElem? (i := 13) rfl)), (jv_at 172 (by decide +kernel)), ⟨by decide, by decide⟩, by decide +kernel⟩
theorem mv_X13_steps : jv_mv M_X13_steps := ⟨(jv_at 1851 (by decide +kernel)), (jv_at 1852 (by decide +kernel))⟩
theorem ms_L_steps : jv_ms M_L_steps := (jv_at 1295 (by decide +kernel))
theorem lk_L_168 : Cond.methodLink RL 168 M_L_shared.1 ∈ lw_tbl := (jv_at 1286 (by decide +kernel))
set_option maxRecDepth 20000 in
theorem me_L_shared : jv_meH M_L_shared 4 := ⟨(jv_in5 (List.mem_of_getElem? (i := 168) rfl)), (jv_at 160 (by decide +kernel)), ⟨by decide, by decide⟩, by decide +kernel⟩
theorem lk_L_170 : Cond.methodLink RL 170 M_X13_shared.1 ∈ lw_tbl := (jv_at 1846 (by decide +kernel))
set_option maxRecDepth 20000 in
theorem me_X13_shared : jv_me M_X13_shared 2 := ⟨(jv_in8 (List.mem_of_getElem? (i := 9) rfl)), (jv_at 172 (by decide +kernel)), ⟨by decide, by decide⟩, by decide +kernel⟩
theorem mv_X13_shared : jv_mv M_X13_shared := ⟨(jv_at 1847 (by decide +kernel)), (jv_at 1848 (by decide +kernel))⟩
theorem ms_L_shared : jv_ms M_L_shared := (jv_at 1287 (by decide +kernel))
theorem lk_L_165 : Cond.methodLink RL 165 M_L_set.1 ∈ lw_tbl := (jv_at 1250 (by decide +kernel))
set_option maxRecDepth 20000 in
theorem me_L_set : jv_meH M_L_set 4 := ⟨(jv_in5 (List.mem_of_getElem? (i := 132) rfl)), (jv_at 160 (by decide +kernel)), ⟨by decide, by decide⟩, by decide +kernel⟩
theorem lk_L_167 : Cond.methodLink RL 167 M_X13_set.1 ∈ lw_tbl := (jv_at 1819 (by decide +kernel))
set_option maxRecDepth 20000 in
theorem me_X13_set : jv_me M_X13_set 2 := ⟨(jv_in7 (List.mem_of_getElem? (i := 222) rfl)), (jv_at 172 (by decide +kernel)), ⟨by decide, by decide⟩, by decide +kernel⟩
theorem mv_X13_set : jv_mv M_X13_set := ⟨(jv_at 1820 (by decide +kernel)), (jv_at 1821 (by decide +kernel))⟩
theorem ms_L_set : jv_ms M_L_set := (jv_at 1251 (by decide +kernel))
theorem lk_L_161 : Cond.methodLink RL 161 M_X12_undo.1 ∈ lw_tbl := (jv_at 873 (by decide +kernel))
set_option maxRecDepth 20000 in
theorem me_X12_undo : jv_me M_X12_undo 0 := ⟨(jv_in3 (List.mem_of_getElem? (i := 236) rfl)), (jv_at 161 (by decide +kernel)), ⟨by decide, by decide⟩, by decide +kernel⟩
theorem lk_L_164 : Cond.methodLink RL 164 M_X13_undo.1 ∈ lw_tbl := (jv_at 1750 (by decide +kernel))
set_option maxRecDepth 20000 in
theorem me_X13_undo : jv_me M_X13_undo 0 := ⟨(jv_in7 (List.mem_of_getElem? (i := 153) rfl)), (jv_at 172 (by decide +kernel)), ⟨by decide, by decide⟩, by decide +kernel⟩
theorem mv_X13_undo : jv_mv M_X13_undo := ⟨(jv_at 1751 (by decide +kernel)), (jv_at 1752 (by decide +kernel))⟩
theorem mv_X12_undo : jv_mv M_X12_undo := ⟨(jv_at 874 (by decide +kernel)), (jv_at 875 (by decide +kernel))⟩
theorem lk_L_157 : Cond.methodLink RL 157 M_X12_kill.1 ∈ lw_tbl := (jv_at 867 (by decide +kernel))
set_option maxRecDepth 20000 in
theorem me_X12_kill : jv_me M_X12_kill 2 := ⟨(jv_in3 (List.mem_of_getElem? (i := 230) rfl)), (jv_at 161 (by decide +kernel)), ⟨by decide, by decide⟩, by decide +kernel⟩
theorem lk_L_160 : Cond.methodLink RL 160 M_X13_kill.1 ∈ lw_tbl := (jv_at 1746 (by decide +kernel))
set_option maxRecDepth 20000 in
theorem me_X13_kill : jv_me M_X13_kill 2 := ⟨(jv_in7 (List.mem_of_getElem? (i := 149) rfl)), (jv_at 172 (by decide +kernel)), ⟨by decide, by decide⟩, by decide +kernel⟩
theorem mv_X13_kill : jv_mv M_X13_kill := ⟨(jv_at 1747 (by decide +kernel)), (jv_at 1748 (by decide +kernel))⟩
theorem mv_X12_kill : jv_mv M_X12_kill := ⟨(jv_at 868 (by decide +kernel)), (jv_at 869 (by decide +kernel))⟩
theorem lk_L_153 : Cond.methodLink RL 153 M_X12_end.1 ∈ lw_tbl := (jv_at 861 (by decide +kernel))
set_option maxRecDepth 20000 in
theorem me_X12_end : jv_me M_X12_end 1 := ⟨(jv_in3 (List.mem_of_getElem? (i := 224) rfl)), (jv_at 161 (by decide +kernel)), ⟨by decide, by decide⟩, by decide +kernel⟩
theorem lk_L_156 : Cond.methodLink RL 156 M_X13_end.1 ∈ lw_tbl := (jv_at 1742 (by decide +kernel))
set_option maxRecDepth 20000 in
theorem me_X13_end : jv_me M_X13_end 1 := ⟨(jv_in7 (List.mem_of_getElem? (i := 145) rfl)), (jv_at 172 (by decide +kernel)), ⟨by decide, by decide⟩, by decide +kernel⟩
theorem mv_X13_end : jv_mv M_X13_end := ⟨(jv_at 1743 (by decide +kernel)), (jv_at 1744 (by decide +kernel))⟩
theorem mv_X12_end : jv_mv M_X12_end := ⟨(jv_at 862 (by decide +kernel)), (jv_at 863 (by decide +kernel))⟩
theorem lk_L_149 : Cond.methodLink RL 149 M_X12_enter.1 ∈ lw_tbl := (jv_at 855 (by decide +kernel))
set_option maxRecDepth 20000 in
theorem me_X12_enter : jv_me M_X12_enter 3 := ⟨(jv_in3 (List.mem_of_getElem? (i := 218) rfl)), (jv_at 161 (by decide +kernel)), ⟨by decide, by decide⟩, by decide +kernel⟩
theorem lk_L_152 : Cond.methodLink RL 152 M_X13_enter.1 ∈ lw_tbl := (jv_at 1738 (by decide +kernel))
set_option maxRecDepth 20000 in
theorem me_X13_enter : jv_me M_X13_enter 3 := ⟨(jv_in7 (List.mem_of_getElem? (i := 141) rfl)), (jv_at 172 (by decide +kernel)), ⟨by decide, by decide⟩, by decide +kernel⟩
theorem mv_X13_enter : jv_mv M_X13_enter := ⟨(jv_at 1739 (by decide +kernel)), (jv_at 1740 (by decide +kernel))⟩
theorem mv_X12_enter : jv_mv M_X12_enter := ⟨(jv_at 856 (by decide +kernel)), (jv_at 857 (by decide +kernel))⟩
theorem lk_L_145 : Cond.methodLink RL 145 M_X12_share.1 ∈ lw_tbl := (jv_at 849 (by decide +kernel))
set_option maxRecDepth 20000 in
theorem me_X12_share : jv_me M_X12_share 1 := ⟨(jv_in3 (List.mem_of_getElem? (i := 212) rfl)), (jv_at 161 (by decide +kernel)), ⟨by decide, by decide⟩, by decide +kernel⟩
theorem lk_L_148 : Cond.methodLink RL 148 M_X13_share.1 ∈ lw_tbl := (jv_at 1734 (by decide +kernel))
set_option maxRecDepth 20000 in
theorem me_X13_share : jv_me M_X13_share 1 := ⟨(jv_in7 (List.mem_of_getElem? (i := 137) rfl)), (jv_at 172 (by decide +kernel)), ⟨by decide, by decide⟩, by decide +kernel⟩
theorem mv_X13_share : jv_mv M_X13_share := ⟨(jv_at 1735 (by decide +kernel)), (jv_at 1736 (by decide +kernel))⟩
theorem mv_X12_share : jv_mv M_X12_share := ⟨(jv_at 850 (by decide +kernel)), (jv_at 851 (by decide +kernel))⟩
theorem lk_L_141 : Cond.methodLink RL 141 M_X12_mount.1 ∈ lw_tbl := (jv_at 843 (by decide +kernel))
set_option maxRecDepth 20000 in
theorem me_X12_mount : jv_me M_X12_mount 3 := ⟨(jv_in3 (List.mem_of_getElem? (i := 206) rfl)), (jv_at 161 (by decide +kernel)), ⟨by decide, by decide⟩, by decide +kernel⟩
theorem lk_L_144 : Cond.methodLink RL 144 M_X13_mount.1 ∈ lw_tbl := (jv_at 1730 (by decide +kernel))
set_option maxRecDepth 20000 in
theorem me_X13_mount : jv_me M_X13_mount 3 := ⟨(jv_in7 (List.mem_of_getElem? (i := 133) rfl)), (jv_at 172 (by decide +kernel)), ⟨by decide, by decide⟩, by decide +kernel⟩
theorem mv_X13_mount : jv_mv M_X13_mount := ⟨(jv_at 1731 (by decide +kernel)), (jv_at 1732 (by decide +kernel))⟩
theorem mv_X12_mount : jv_mv M_X12_mount := ⟨(jv_at 844 (by decide +kernel)), (jv_at 845 (by decide +kernel))⟩
theorem lk_L_137 : Cond.methodLink RL 137 M_X12_become.1 ∈ lw_tbl := (jv_at 837 (by decide +kernel))
set_option maxRecDepth 20000 in
theorem me_X12_become : jv_me M_X12_become 2 := ⟨(jv_in3 (List.mem_of_getElem? (i := 200) rfl)), (jv_at 161 (by decide +kernel)), ⟨by decide, by decide⟩, by decide +kernel⟩
theorem lk_L_140 : Cond.methodLink RL 140 M_X13_become.1 ∈ lw_tbl := (jv_at 1726 (by decide +kernel))
set_option maxRecDepth 20000 in
theorem me_X13_become : jv_me M_X13_become 2 := ⟨(jv_in7 (List.mem_of_getElem? (i := 129) rfl)), (jv_at 172 (by decide +kernel)), ⟨by decide, by decide⟩, by decide +kernel⟩
theorem mv_X13_become : jv_mv M_X13_become := ⟨(jv_at 1727 (by decide +kernel)), (jv_at 1728 (by decide +kernel))⟩
theorem mv_X12_become : jv_mv M_X12_become := ⟨(jv_at 838 (by decide +kernel)), (jv_at 839 (by decide +kernel))⟩
theorem lk_L_133 : Cond.methodLink RL 133 M_X12_map.1 ∈ lw_tbl := (jv_at 831 (by decide +kernel))
set_option maxRecDepth 20000 in
theorem me_X12_map : jv_me M_X12_map 5 := ⟨(jv_in3 (List.mem_of_getElem? (i := 194) rfl)), (jv_at 161 (by decide +kernel)), ⟨by decide, by decide⟩, by decide +kernel⟩
theorem lk_L_136 : Cond.methodLink RL 136 M_X13_map.1 ∈ lw_tbl := (jv_at 1722 (by decide +kernel))
set_option maxRecDepth 20000 in
theorem me_X13_map : jv_me M_X13_map 5 := ⟨(jv_in7 (List.mem_of_getElem? (i := 125) rfl)), (jv_at 172 (by decide +kernel)), ⟨by decide, by decide⟩, by decide +kernel⟩
theorem mv_X13_map : jv_mv M_X13_map := ⟨(jv_at 1723 (by decide +kernel)), (jv_at 1724 (by decide +kernel))⟩
theorem mv_X12_map : jv_mv M_X12_map := ⟨(jv_at 832 (by decide +kernel)), (jv_at 833 (by decide +kernel))⟩
theorem lk_L_129 : Cond.methodLink RL 129 M_X12_create.1 ∈ lw_tbl := (jv_at 821 (by decide +kernel))
set_option maxRecDepth 20000 in
theorem me_X12_create : jv_me M_X12_create 2 := ⟨(jv_in3 (List.mem_of_getElem? (i := 184) rfl)), (jv_at 161 (by decide +kernel)), ⟨by decide, by decide⟩, by decide +kernel⟩
theorem lk_L_132 : Cond.methodLink RL 132 M_X13_create.1 ∈ lw_tbl := (jv_at 1715 (by decide +kernel))
set_option maxRecDepth 20000 in
theorem me_X13_create : jv_me M_X13_create 2 := ⟨(jv_in7 (List.mem_of_getElem? (i := 118) rfl)), (jv_at 172 (by decide +kernel)), ⟨by decide, by decide⟩, by decide +kernel⟩
theorem mv_X13_create : jv_mv M_X13_create := ⟨(jv_at 1716 (by decide +kernel)), (jv_at 1717 (by decide +kernel))⟩
theorem mv_X12_create : jv_mv M_X12_create := ⟨(jv_at 822 (by decide +kernel)), (jv_at 823 (by decide +kernel))⟩
theorem lk_L_125 : Cond.methodLink RL 125 M_X12_fork.1 ∈ lw_tbl := (jv_at 526 (by decide +kernel))
set_option maxRecDepth 20000 in
theorem me_X12_fork : jv_me M_X12_fork 1 := ⟨(jv_in2 (List.mem_of_getElem? (i := 129) rfl)), (jv_at 161 (by decide +kernel)), ⟨by decide, by decide⟩, by decide +kernel⟩
theorem lk_L_128 : Cond.methodLink RL 128 M_X13_fork.1 ∈ lw_tbl := (jv_at 1700 (by decide +kernel))
set_option maxRecDepth 20000 in
theorem me_X13_fork : jv_me M_X13_fork 1 := ⟨(jv_in7 (List.mem_of_getElem? (i := 103) rfl)), (jv_at 172 (by decide +kernel)), ⟨by decide, by decide⟩, by decide +kernel⟩
theorem mv_X13_fork : jv_mv M_X13_fork := ⟨(jv_at 1701 (by decide +kernel)), (jv_at 1702 (by decide +kernel))⟩
theorem mv_X12_fork : jv_mv M_X12_fork := ⟨(jv_at 527 (by decide +kernel)), (jv_at 528 (by decide +kernel))⟩
theorem lk_L_122 : Cond.methodLink RL 122 M_L_over.1 ∈ lw_tbl := (jv_at 1243 (by decide +kernel))
set_option maxRecDepth 20000 in
theorem me_L_over : jv_meH M_L_over 4 := ⟨(jv_in5 (List.mem_of_getElem? (i := 125) rfl)), (jv_at 160 (by decide +kernel)), ⟨by decide, by decide⟩, by decide +kernel⟩
theorem lk_L_124 : Cond.methodLink RL 124 M_X13_over.1 ∈ lw_tbl := (jv_at 1815 (by decide +kernel))
set_option maxRecDepth 20000 in
theorem me_X13_over : jv_me M_X13_over 2 := ⟨(jv_in7 (List.mem_of_getElem? (i := 218) rfl)), (jv_at 172 (by decide +kernel)), ⟨by decide, by decide⟩, by decide +kernel⟩
theorem mv_X13_over : jv_mv M_X13_over := ⟨(jv_at 1816 (by decide +kernel)), (jv_at 1817 (by decide +kernel))⟩
theorem ms_L_over : jv_ms M_L_over := (jv_at 1244 (by decide +kernel))
theorem lk_L_119 : Cond.methodLink RL 119 M_L_may.1 ∈ lw_tbl := (jv_at 1232 (by decide +kernel))
set_option maxRecDepth 20000 in
theorem me_L_may : jv_meH M_L_may 5 := ⟨(jv_in5 (List.mem_of_getElem? (i := 114) rfl)), (jv_at 160 (by decide +kernel)), ⟨by decide, by decide⟩, by decide +kernel⟩
theorem lk_L_121 : Cond.methodLink RL 121 M_X13_may.1 ∈ lw_tbl := (jv_at 1811 (by decide +kernel))
set_option maxRecDepth 20000 in
theorem me_X13_may : jv_me M_X13_may 3 := ⟨(jv_in7 (List.mem_of_getElem? (i := 214) rfl)), (jv_at 172 (by decide +kernel)), ⟨by decide, by decide⟩, by decide +kernel⟩
theorem mv_X13_may : jv_mv M_X13_may := ⟨(jv_at 1812 (by decide +kernel)), (jv_at 1813 (by decide +kernel))⟩
theorem ms_L_may : jv_ms M_L_may := (jv_at 1233 (by decide +kernel))
theorem lk_L_116 : Cond.methodLink RL 116 M_L_mounted.1 ∈ lw_tbl := (jv_at 1225 (by decide +kernel))
set_option maxRecDepth 20000 in
theorem me_L_mounted : jv_meH M_L_mounted 4 := ⟨(jv_in5 (List.mem_of_getElem? (i := 107) rfl)), (jv_at 160 (by decide +kernel)), ⟨by decide, by decide⟩, by decide +kernel⟩
theorem lk_L_118 : Cond.methodLink RL 118 M_X13_mounted.1 ∈ lw_tbl := (jv_at 1807 (by decide +kernel))
set_option maxRecDepth 20000 in
theorem me_X13_mounted : jv_me M_X13_mounted 2 := ⟨(jv_in7 (List.mem_of_getElem? (i := 210) rfl)), (jv_at 172 (by decide +kernel)), ⟨by decide, by decide⟩, by decide +kernel⟩
theorem mv_X13_mounted : jv_mv M_X13_mounted := ⟨(jv_at 1808 (by decide +kernel)), (jv_at 1809 (by decide +kernel))⟩
theorem ms_L_mounted : jv_ms M_L_mounted := (jv_at 1226 (by decide +kernel))
theorem lk_L_113 : Cond.methodLink RL 113 M_L_range.1 ∈ lw_tbl := (jv_at 1218 (by decide +kernel))
set_option maxRecDepth 20000 in
theorem me_L_range : jv_meH M_L_range 5 := ⟨(jv_in5 (List.mem_of_getElem? (i := 100) rfl)), (jv_at 160 (by decide +kernel)), ⟨by decide, by decide⟩, by decide +kernel⟩
theorem lk_L_115 : Cond.methodLink RL 115 M_X13_range.1 ∈ lw_tbl := (jv_at 1803 (by decide +kernel))
set_option maxRecDepth 20000 in
theorem me_X13_range : jv_me M_X13_range 3 := ⟨(jv_in7 (List.mem_of_getElem? (i := 206) rfl)), (jv_at 172 (by decide +kernel)), ⟨by decide, by decide⟩, by decide +kernel⟩
theorem mv_X13_range : jv_mv M_X13_range := ⟨(jv_at 1804 (by decide +kernel)), (jv_at 1805 (by decide +kernel))⟩
theorem ms_L_range : jv_ms M_L_range := (jv_at 1219 (by decide +kernel))
theorem lk_L_110 : Cond.methodLink RL 110 M_L_outside.1 ∈ lw_tbl := (jv_at 1210 (by decide +kernel))
set_option maxRecDepth 20000 in
theorem me_L_outside : jv_meH M_L_outside 4 := ⟨(jv_in5 (List.mem_of_getElem? (i := 92) rfl)), (jv_at 160 (by decide +kernel)), ⟨by decide, by decide⟩, by decide +kernel⟩
theorem lk_L_112 : Cond.methodLink RL 112 M_X13_outside.1 ∈ lw_tbl := (jv_at 1799 (by decide +kernel))
set_option maxRecDepth 20000 in
theorem me_X13_outside : jv_me M_X13_outside 2 := ⟨(jv_in7 (List.mem_of_getElem? (i := 202) rfl)), (jv_at 172 (by decide +kernel)), ⟨by decide, by decide⟩, by decide +kernel⟩
theorem mv_X13_outside : jv_mv M_X13_outside := ⟨(jv_at 1800 (by decide +kernel)), (jv_at 1801 (by decide +kernel))⟩
theorem ms_L_outside : jv_ms M_L_outside := (jv_at 1211 (by decide +kernel))
theorem lk_L_107 : Cond.methodLink RL 107 M_L_inside.1 ∈ lw_tbl := (jv_at 1199 (by decide +kernel))
set_option maxRecDepth 20000 in
theorem me_L_inside : jv_meH M_L_inside 4 := ⟨(jv_in5 (List.mem_of_getElem? (i := 81) rfl)), (jv_at 160 (by decide +kernel)), ⟨by decide, by decide⟩, by decide +kernel⟩
theorem lk_L_109 : Cond.methodLink RL 109 M_X13_inside.1 ∈ lw_tbl := (jv_at 1795 (by decide +kernel))
set_option maxRecDepth 20000 in
theorem me_X13_inside : jv_me M_X13_inside 2 := ⟨(jv_in7 (List.mem_of_getElem? (i := 198) rfl)), (jv_at 172 (by decide +kernel)), ⟨by decide, by decide⟩, by decide +kernel⟩
theorem mv_X13_inside : jv_mv M_X13_inside := ⟨(jv_at 1796 (by decide +kernel)), (jv_at 1797 (by decide +kernel))⟩
theorem ms_L_inside : jv_ms M_L_inside := (jv_at 1200 (by decide +kernel))
theorem lk_L_104 : Cond.methodLink RL 104 M_L_listed.1 ∈ lw_tbl := (jv_at 1191 (by decide +kernel))
set_option maxRecDepth 20000 in
theorem me_L_listed : jv_meH M_L_listed 4 := ⟨(jv_in5 (List.mem_of_getElem? (i := 73) rfl)), (jv_at 160 (by decide +kernel)), ⟨by decide, by decide⟩, by decide +kernel⟩
theorem lk_L_106 : Cond.methodLink RL 106 M_X13_listed.1 ∈ lw_tbl := (jv_at 1791 (by decide +kernel))
set_option maxRecDepth 20000 in
theorem me_X13_listed : jv_me M_X13_listed 2 := ⟨(jv_in7 (List.mem_of_getElem? (i := 194) rfl)), (jv_at 172 (by decide +kernel)), ⟨by decide, by decide⟩, by decide +kernel⟩
theorem mv_X13_listed : jv_mv M_X13_listed := ⟨(jv_at 1792 (by decide +kernel)), (jv_at 1793 (by decide +kernel))⟩
theorem ms_L_listed : jv_ms M_L_listed := (jv_at 1192 (by decide +kernel))
theorem lk_L_101 : Cond.methodLink RL 101 M_L_number.1 ∈ lw_tbl := (jv_at 1180 (by decide +kernel))
set_option maxRecDepth 20000 in
theorem me_L_number : jv_meH M_L_number 4 := ⟨(jv_in5 (List.mem_of_getElem? (i := 62) rfl)), (jv_at 160 (by decide +kernel)), ⟨by decide, by decide⟩, by decide +kernel⟩
theorem lk_L_103 : Cond.methodLink RL 103 M_X13_number.1 ∈ lw_tbl := (jv_at 1787 (by decide +kernel))
set_option maxRecDepth 20000 in
theorem me_X13_number : jv_me M_X13_number 2 := ⟨(jv_in7 (List.mem_of_getElem? (i := 190) rfl)), (jv_at 172 (by decide +kernel)), ⟨by decide, by decide⟩, by decide +kernel⟩
theorem mv_X13_number : jv_mv M_X13_number := ⟨(jv_at 1788 (by decide +kernel)), (jv_at 1789 (by decide +kernel))⟩
theorem ms_L_number : jv_ms M_L_number := (jv_at 1181 (by decide +kernel))
theorem lk_L_97 : Cond.methodLink RL 97 M_L_space.1 ∈ lw_tbl := (jv_at 1149 (by decide +kernel))
set_option maxRecDepth 20000 in
theorem me_L_space : jv_meH M_L_space 5 := ⟨(jv_in5 (List.mem_of_getElem? (i := 31) rfl)), (jv_at 160 (by decide +kernel)), ⟨by decide, by decide⟩, by decide +kernel⟩
theorem lk_L_100 : Cond.methodLink RL 100 M_X13_space.1 ∈ lw_tbl := (jv_at 1775 (by decide +kernel))
set_option maxRecDepth 20000 in
theorem me_X13_space : jv_me M_X13_space 3 := ⟨(jv_in7 (List.mem_of_getElem? (i := 178) rfl)), (jv_at 172 (by decide +kernel)), ⟨by decide, by decide⟩, by decide +kernel⟩
theorem mv_X13_space : jv_mv M_X13_space := ⟨(jv_at 1776 (by decide +kernel)), (jv_at 1777 (by decide +kernel))⟩
theorem ms_L_space : jv_ms M_L_space := (jv_at 1150 (by decide +kernel))
theorem lk_L_93 : Cond.methodLink RL 93 M_L_process.1 ∈ lw_tbl := (jv_at 1132 (by decide +kernel))
set_option maxRecDepth 20000 in
theorem me_L_process : jv_meH M_L_process 4 := ⟨(jv_in5 (List.mem_of_getElem? (i := 14) rfl)), (jv_at 160 (by decide +kernel)), ⟨by decide, by decide⟩, by decide +kernel⟩
theorem lk_L_96 : Cond.methodLink RL 96 M_X13_process.1 ∈ lw_tbl := (jv_at 1771 (by decide +kernel))
set_option maxRecDepth 20000 in
theorem me_X13_process : jv_me M_X13_process 2 := ⟨(jv_in7 (List.mem_of_getElem? (i := 174) rfl)), (jv_at 172 (by decide +kernel)), ⟨by decide, by decide⟩, by decide +kernel⟩
theorem mv_X13_process : jv_mv M_X13_process := ⟨(jv_at 1772 (by decide +kernel)), (jv_at 1773 (by decide +kernel))⟩
theorem ms_L_process : jv_ms M_L_process := (jv_at 1133 (by decide +kernel))
theorem lk_L_90 : Cond.methodLink RL 90 M_L_count.1 ∈ lw_tbl := (jv_at 1098 (by decide +kernel))
set_option maxRecDepth 20000 in
theorem me_L_count : jv_meH M_L_count 3 := ⟨(jv_in4 (List.mem_of_getElem? (i := 220) rfl)), (jv_at 160 (by decide +kernel)), ⟨by decide, by decide⟩, by decide +kernel⟩
theorem lk_L_92 : Cond.methodLink RL 92 M_X13_count.1 ∈ lw_tbl := (jv_at 1754 (by decide +kernel))
set_option maxRecDepth 20000 in
theorem me_X13_count : jv_me M_X13_count 1 := ⟨(jv_in7 (List.mem_of_getElem? (i := 157) rfl)), (jv_at 172 (by decide +kernel)), ⟨by decide, by decide⟩, by decide +kernel⟩
theorem mv_X13_count : jv_mv M_X13_count := ⟨(jv_at 1755 (by decide +kernel)), (jv_at 1756 (by decide +kernel))⟩
theorem ms_L_count : jv_ms M_L_count := (jv_at 1099 (by decide +kernel))
theorem lk_L_86 : Cond.methodLink RL 86 M_X12_fault.1 ∈ lw_tbl := (jv_at 522 (by decide +kernel))
set_option maxRecDepth 20000 in
theorem me_X12_fault : jv_me M_X12_fault 0 := ⟨(jv_in2 (List.mem_of_getElem? (i := 125) rfl)), (jv_at 161 (by decide +kernel)), ⟨by decide, by decide⟩, by decide +kernel⟩
theorem lk_L_89 : Cond.methodLink RL 89 M_X13_fault.1 ∈ lw_tbl := (jv_at 1696 (by decide +kernel))
set_option maxRecDepth 20000 in
theorem me_X13_fault : jv_me M_X13_fault 0 := ⟨(jv_in7 (List.mem_of_getElem? (i := 99) rfl)), (jv_at 172 (by decide +kernel)), ⟨by decide, by decide⟩, by decide +kernel⟩
theorem mv_X13_fault : jv_mv M_X13_fault := ⟨(jv_at 1697 (by decide +kernel)), (jv_at 1698 (by decide +kernel))⟩
theorem mv_X12_fault : jv_mv M_X12_fault := ⟨(jv_at 523 (by decide +kernel)), (jv_at 524 (by decide +kernel))⟩
theorem lk_L_76 : Cond.methodLink RL 76 M_L_spaces.1 ∈ lw_tbl := (jv_at 936 (by decide +kernel))
set_option maxRecDepth 20000 in
theorem me_L_spaces : jv_meH M_L_spaces 3 := ⟨(jv_in4 (List.mem_of_getElem? (i := 58) rfl)), (jv_at 160 (by decide +kernel)), ⟨by decide, by decide⟩, by decide +kernel⟩
theorem lk_L_81 : Cond.methodLink RL 81 M_X13_spaces.1 ∈ lw_tbl := (jv_at 1490 (by decide +kernel))
set_option maxRecDepth 20000 in
theorem me_X13_spaces : jv_me M_X13_spaces 1 := ⟨(jv_in6 (List.mem_of_getElem? (i := 133) rfl)), (jv_at 172 (by decide +kernel)), ⟨by decide, by decide⟩, by decide +kernel⟩
theorem mv_X13_spaces : jv_mv M_X13_spaces := ⟨(jv_at 1491 (by decide +kernel)), (jv_at 1492 (by decide +kernel))⟩
theorem ms_L_spaces : jv_ms M_L_spaces := (jv_at 937 (by decide +kernel))
theorem lk_L_71 : Cond.methodLink RL 71 M_X12_feed.1 ∈ lw_tbl := (jv_at 514 (by decide +kernel))
set_option maxRecDepth 20000 in
theorem me_X12_feed : jv_me M_X12_feed 5 := ⟨(jv_in2 (List.mem_of_getElem? (i := 117) rfl)), (jv_at 161 (by decide +kernel)), ⟨by decide, by decide⟩, by decide +kernel⟩
theorem lk_L_75 : Cond.methodLink RL 75 M_X13_feed.1 ∈ lw_tbl := (jv_at 1486 (by decide +kernel))
set_option maxRecDepth 20000 in
theorem me_X13_feed : jv_me M_X13_feed 5 := ⟨(jv_in6 (List.mem_of_getElem? (i := 129) rfl)), (jv_at 172 (by decide +kernel)), ⟨by decide, by decide⟩, by decide +kernel⟩
theorem mv_X13_feed : jv_mv M_X13_feed := ⟨(jv_at 1487 (by decide +kernel)), (jv_at 1488 (by decide +kernel))⟩
theorem mv_X12_feed : jv_mv M_X12_feed := ⟨(jv_at 515 (by decide +kernel)), (jv_at 516 (by decide +kernel))⟩
theorem mi_X13_init : jv_mi M_X13_init := (jv_at 1349 (by decide +kernel))
theorem mi_X12_init : jv_mi M_X12_init := (jv_at 191 (by decide +kernel))
def f_L_law_b1737 (N : Nat) (xs : Nat → Int32) (R23 : Nat → Nat → Nat → Int32 → jh → Option (Int32 × jh)) (K23 : jh → Option (Int32 × jh)) (x1 : Nat) (x2 : Nat) (x3 : Nat) (x4 : Int32) (s0 : Int32) (s1 : Int32) (s2 : Int32) (s3 : Nat) (s4 : Int32) (h : jh) : Option (Int32 × jh) :=
  cV h s3 11 (f_X13_note s3 s2 s1 s0 h) fun v97 h98 =>
  (if s4 = v97 then
  R23 x1 x2 x3 (x4 + 6) h98
  else
  some (0, h98))
theorem o_f_L_law_b1737 {X : jx} {b0 : Nat × Nat} {R23 : Nat → Nat → Nat → Int32 → jh → Option (Int32 × jh)} {K23 : jh → Option (Int32 × jh)} (hR23 : ∀ (x1 : Nat) (x2 : Nat) (x3 : Nat) (x4 : Int32) (h : jh), jv_O X M_L_law b0 jeI 23 [some (.ref (jv_ad X 13)), some (.ref (x1)), some (.ref (x2)), some (.ref (x3)), some (.int (x4)), none, none] [] h (R23 x1 x2 x3 x4 h)) (hK23 : ∀  (h : jh), jv_O X M_L_law b0 jeI 1935 [none, none, none, none, none, none, none] [] h (K23  h)) (x1 : Nat) (x2 : Nat) (x3 : Nat) (x4 : Int32) (s0 : Int32) (s1 : Int32) (s2 : Int32) (s3 : Nat) (s4 : Int32) (h : jh) : jv_O X M_L_law b0 jeI 1737 [some (.ref (jv_ad X 13)), some (.ref (x1)), some (.ref (x2)), some (.ref (x3)), some (.int (x4)), none, none] [.int (s0), .int (s1), .int (s2), .ref (s3), .int (s4)] h (f_L_law_b1737 X.2.2.2.2.2.1 X.2.2.2.2.2.2 R23 K23 x1 x2 x3 x4 s0 s1 s2 s3 s4 h) := by
  unfold f_L_law_b1737
  refine jv_callV (en' := jeI) (pv := jpI) (As := [.int (s2), .int (s1), .int (s0)]) (S := [.int (s4)]) (jv_dk t_L_law (k := 1085) rfl) (fun _ => rfl) (Or.inl lk_L_178) me_X13_note mv_X13_note ⟨by decide, by decide⟩ rfl rfl rfl (Nat.le_of_ble_eq_true rfl) (P_X13_note X s3 s2 s1 s0 h) (fun v97 h98 => ?_)
  show jv_O X M_L_law _ jeI 1740 [some (.ref (jv_ad X 13)), some (.ref (x1)), some (.ref (x2)), some (.ref (x3)), some (.int (x4)), none, none] [.int (v97), .int (s4)] h98 _
  refine jv_icmp_eq (tgt := 1929) (jv_dk t_L_law (k := 1086) rfl) rfl (fun c99 => ?_) (fun c99 => ?_)
  · refine jv_iinc (v := 6) (L' := [some (.ref (jv_ad X 13)), some (.ref (x1)), some (.ref (x2)), some (.ref (x3)), some (.int (x4 + 6)), none, none]) (jv_dk t_L_law (k := 1203) rfl) rfl (by decide) rfl ?_
    refine jv_goto (tgt := 23) (jv_dk t_L_law (k := 1204) rfl) rfl ?_
    exact hR23 _ _ _ _ _ 
  · show jv_O _ _ _ _ 1743 _ _ _ _
    refine jv_iconst (v := 0) (jv_dk t_L_law (k := 1087) rfl) (by decide) ?_
    exact jv_iret (ty := .boolean) (jv_dk t_L_law (k := 1088) rfl) rfl rfl rfl
def f_L_law_b1707 (N : Nat) (xs : Nat → Int32) (R23 : Nat → Nat → Nat → Int32 → jh → Option (Int32 × jh)) (K23 : jh → Option (Int32 × jh)) (x1 : Nat) (x2 : Nat) (x3 : Nat) (x4 : Int32) (s0 : Int32) (s1 : Int32) (s2 : Int32) (s3 : Nat) (h : jh) : Option (Int32 × jh) :=
  cV h s3 10 (f_X12_note s3 s2 s1 s0 h) fun v91 h92 =>
  xI N xs (x4 + 1) fun v93 =>
  xI N xs (x4 + 2) fun v94 =>
  xI N xs (x4 + 3) fun v95 =>
  (if v95 = 0 then
  f_L_law_b1737 N xs R23 K23 x1 x2 x3 x4 0 v94 v93 x2 v91 h92
  else
  f_L_law_b1737 N xs R23 K23 x1 x2 x3 x4 1 v94 v93 x2 v91 h92)
theorem o_f_L_law_b1707 {X : jx} {b0 : Nat × Nat} {R23 : Nat → Nat → Nat → Int32 → jh → Option (Int32 × jh)} {K23 : jh → Option (Int32 × jh)} (hR23 : ∀ (x1 : Nat) (x2 : Nat) (x3 : Nat) (x4 : Int32) (h : jh), jv_O X M_L_law b0 jeI 23 [some (.ref (jv_ad X 13)), some (.ref (x1)), some (.ref (x2)), some (.ref (x3)), some (.int (x4)), none, none] [] h (R23 x1 x2 x3 x4 h)) (hK23 : ∀  (h : jh), jv_O X M_L_law b0 jeI 1935 [none, none, none, none, none, none, none] [] h (K23  h)) (x1 : Nat) (x2 : Nat) (x3 : Nat) (x4 : Int32) (s0 : Int32) (s1 : Int32) (s2 : Int32) (s3 : Nat) (h : jh) : jv_O X M_L_law b0 jeI 1707 [some (.ref (jv_ad X 13)), some (.ref (x1)), some (.ref (x2)), some (.ref (x3)), some (.int (x4)), none, none] [.int (s0), .int (s1), .int (s2), .ref (s3)] h (f_L_law_b1707 X.2.2.2.2.2.1 X.2.2.2.2.2.2 R23 K23 x1 x2 x3 x4 s0 s1 s2 s3 h) := by
  unfold f_L_law_b1707
  refine jv_callV (en' := jeI) (pv := jpI) (As := [.int (s2), .int (s1), .int (s0)]) (S := []) (jv_dk t_L_law (k := 1064) rfl) (fun _ => rfl) (Or.inl lk_L_174) me_X12_note mv_X12_note ⟨by decide, by decide⟩ rfl rfl rfl (Nat.le_of_ble_eq_true rfl) (P_X12_note X s3 s2 s1 s0 h) (fun v91 h92 => ?_)
  show jv_O X M_L_law _ jeI 1710 [some (.ref (jv_ad X 13)), some (.ref (x1)), some (.ref (x2)), some (.ref (x3)), some (.int (x4)), none, none] [.int (v91)] h92 _
  refine jv_aload_n (jv_dk t_L_law (k := 1065) rfl) rfl rfl (Or.inr ⟨_, rfl⟩) ?_
  refine jv_aload_n (jv_dk t_L_law (k := 1066) rfl) rfl rfl (Or.inr ⟨_, rfl⟩) ?_
  refine jv_iload (jv_dk t_L_law (k := 1067) rfl) rfl ?_
  refine jv_iconst (v := 1) (jv_dk t_L_law (k := 1068) rfl) (by decide) ?_
  refine jv_iadd (jv_dk t_L_law (k := 1069) rfl) ?_
  refine jv_xI (jv_dk t_L_law (k := 1070) rfl) (fun v93 => ?_)
  refine jv_aload_n (jv_dk t_L_law (k := 1071) rfl) rfl rfl (Or.inr ⟨_, rfl⟩) ?_
  refine jv_iload (jv_dk t_L_law (k := 1072) rfl) rfl ?_
  refine jv_iconst (v := 2) (jv_dk t_L_law (k := 1073) rfl) (by decide) ?_
  refine jv_iadd (jv_dk t_L_law (k := 1074) rfl) ?_
  refine jv_xI (jv_dk t_L_law (k := 1075) rfl) (fun v94 => ?_)
  refine jv_aload_n (jv_dk t_L_law (k := 1076) rfl) rfl rfl (Or.inr ⟨_, rfl⟩) ?_
  refine jv_iload (jv_dk t_L_law (k := 1077) rfl) rfl ?_
  refine jv_iconst (v := 3) (jv_dk t_L_law (k := 1078) rfl) (by decide) ?_
  refine jv_iadd (jv_dk t_L_law (k := 1079) rfl) ?_
  refine jv_xI (jv_dk t_L_law (k := 1080) rfl) (fun v95 => ?_)
  refine jv_if_eq (tgt := 1736) (jv_dk t_L_law (k := 1081) rfl) rfl (fun c96 => ?_) (fun c96 => ?_)
  · refine jv_iconst (v := 0) (jv_dk t_L_law (k := 1084) rfl) (by decide) ?_
    exact o_f_L_law_b1737 hR23 hK23 _ _ _ _ _ _ _ _ _ _ 
  · show jv_O _ _ _ _ 1732 _ _ _ _
    refine jv_iconst (v := 1) (jv_dk t_L_law (k := 1082) rfl) (by decide) ?_
    refine jv_goto (tgt := 1737) (jv_dk t_L_law (k := 1083) rfl) rfl ?_
    exact o_f_L_law_b1737 hR23 hK23 _ _ _ _ _ _ _ _ _ _ 
def f_L_law_h23 (N : Nat) (xs : Nat → Int32) (K23 : jh → Option (Int32 × jh)) (R23 : Nat → Nat → Nat → Int32 → jh → Option (Int32 × jh)) (x1 : Nat) (x2 : Nat) (x3 : Nat) (x4 : Int32) (h : jh) : Option (Int32 × jh) :=
  (if ((Int32.ofNat N) - 6) < x4 then
  K23  h
  else
  xI N xs x4 fun v10 =>
  (if (v10 &&& 63) = 0 then
  xI N xs (x4 + 1) fun v407 =>
  xI N xs (x4 + 2) fun v408 =>
  xI N xs (x4 + 3) fun v409 =>
  xI N xs (x4 + 4) fun v410 =>
  xI N xs (x4 + 5) fun v411 =>
  cV h x1 10 (f_X12_feed x1 v407 v408 v409 v410 v411 h) fun v412 h413 =>
  xI N xs (x4 + 1) fun v414 =>
  xI N xs (x4 + 2) fun v415 =>
  xI N xs (x4 + 3) fun v416 =>
  xI N xs (x4 + 4) fun v417 =>
  xI N xs (x4 + 5) fun v418 =>
  cV h413 x2 11 (f_X13_feed x2 v414 v415 v416 v417 v418 h413) fun v419 h420 =>
  (if v412 = v419 then
  R23 x1 x2 x3 (x4 + 6) h420
  else
  some (0, h420))
  else
  (if (v10 &&& 63) = 1 then
  xI N xs (x4 + 1) fun v395 =>
  bd (f_L_spaces x1 v395 x3 h) fun v396 h397 =>
  xI N xs (x4 + 1) fun v398 =>
  cV h397 x2 11 (f_X13_spaces x2 v398 h397) fun v399 h400 =>
  cV h400 x2 11 (f_X13_thrown x2 h400) fun v401 h402 =>
  (if v401 = v396 then
  (if ¬ v396 = 0 then
  R23 x1 x2 x3 (x4 + 6) h402
  else
  aL h402 x3 0 fun v405 =>
  (if (lg_cmp v405 v399.toInt64) = 0 then
  R23 x1 x2 x3 (x4 + 6) h402
  else
  some (0, h402)))
  else
  some (0, h402))
  else
  (if (v10 &&& 63) = 2 then
  cV h x1 10 (f_X12_fault x1 h) fun v390 h391 =>
  cV h391 x2 11 (f_X13_fault x2 h391) fun v392 h393 =>
  (if v390 = v392 then
  R23 x1 x2 x3 (x4 + 6) h393
  else
  some (0, h393))
  else
  (if (v10 &&& 63) = 3 then
  xI N xs (x4 + 1) fun v378 =>
  bd (f_L_count x1 v378 x3 h) fun v379 h380 =>
  xI N xs (x4 + 1) fun v381 =>
  cV h380 x2 11 (f_X13_count x2 v381 h380) fun v382 h383 =>
  cV h383 x2 11 (f_X13_thrown x2 h383) fun v384 h385 =>
  (if v384 = v379 then
  (if ¬ v379 = 0 then
  R23 x1 x2 x3 (x4 + 6) h385
  else
  aL h385 x3 0 fun v388 =>
  (if (lg_cmp v388 v382.toInt64) = 0 then
  R23 x1 x2 x3 (x4 + 6) h385
  else
  some (0, h385)))
  else
  some (0, h385))
  else
  (if (v10 &&& 63) = 4 then
  xI N xs (x4 + 1) fun v364 =>
  xI N xs (x4 + 2) fun v365 =>
  bd (f_L_process x1 v364 v365 x3 h) fun v366 h367 =>
  xI N xs (x4 + 1) fun v368 =>
  xI N xs (x4 + 2) fun v369 =>
  cV h367 x2 11 (f_X13_process x2 v368 v369 h367) fun v370 h371 =>
  cV h371 x2 11 (f_X13_thrown x2 h371) fun v372 h373 =>
  (if v372 = v366 then
  (if ¬ v366 = 0 then
  R23 x1 x2 x3 (x4 + 6) h373
  else
  aL h373 x3 0 fun v376 =>
  (if (lg_cmp v376 v370.toInt64) = 0 then
  R23 x1 x2 x3 (x4 + 6) h373
  else
  some (0, h373)))
  else
  some (0, h373))
  else
  (if (v10 &&& 63) = 5 then
  xI N xs (x4 + 1) fun v348 =>
  xI N xs (x4 + 2) fun v349 =>
  xI N xs (x4 + 3) fun v350 =>
  bd (f_L_space x1 v348 v349 v350 x3 h) fun v351 h352 =>
  xI N xs (x4 + 1) fun v353 =>
  xI N xs (x4 + 2) fun v354 =>
  xI N xs (x4 + 3) fun v355 =>
  cV h352 x2 11 (f_X13_space x2 v353 v354 v355 h352) fun v356 h357 =>
  cV h357 x2 11 (f_X13_thrown x2 h357) fun v358 h359 =>
  (if v358 = v351 then
  (if ¬ v351 = 0 then
  R23 x1 x2 x3 (x4 + 6) h359
  else
  aL h359 x3 0 fun v362 =>
  (if (lg_cmp v362 v356.toInt64) = 0 then
  R23 x1 x2 x3 (x4 + 6) h359
  else
  some (0, h359)))
  else
  some (0, h359))
  else
  (if (v10 &&& 63) = 6 then
  xI N xs (x4 + 1) fun v334 =>
  xI N xs (x4 + 2) fun v335 =>
  bd (f_L_number x1 v334 v335 x3 h) fun v336 h337 =>
  xI N xs (x4 + 1) fun v338 =>
  xI N xs (x4 + 2) fun v339 =>
  cV h337 x2 11 (f_X13_number x2 v338 v339 h337) fun v340 h341 =>
  cV h341 x2 11 (f_X13_thrown x2 h341) fun v342 h343 =>
  (if v342 = v336 then
  (if ¬ v336 = 0 then
  R23 x1 x2 x3 (x4 + 6) h343
  else
  aL h343 x3 0 fun v346 =>
  (if (lg_cmp v346 v340.toInt64) = 0 then
  R23 x1 x2 x3 (x4 + 6) h343
  else
  some (0, h343)))
  else
  some (0, h343))
  else
  (if (v10 &&& 63) = 7 then
  xI N xs (x4 + 1) fun v320 =>
  xI N xs (x4 + 2) fun v321 =>
  bd (f_L_listed x1 v320 v321 x3 h) fun v322 h323 =>
  xI N xs (x4 + 1) fun v324 =>
  xI N xs (x4 + 2) fun v325 =>
  cV h323 x2 11 (f_X13_listed x2 v324 v325 h323) fun v326 h327 =>
  cV h327 x2 11 (f_X13_thrown x2 h327) fun v328 h329 =>
  (if v328 = v322 then
  (if ¬ v322 = 0 then
  R23 x1 x2 x3 (x4 + 6) h329
  else
  aL h329 x3 0 fun v332 =>
  (if (lg_cmp v332 v326.toInt64) = 0 then
  R23 x1 x2 x3 (x4 + 6) h329
  else
  some (0, h329)))
  else
  some (0, h329))
  else
  (if (v10 &&& 63) = 8 then
  xI N xs (x4 + 1) fun v306 =>
  xI N xs (x4 + 2) fun v307 =>
  bd (f_L_inside x1 v306 v307 x3 h) fun v308 h309 =>
  xI N xs (x4 + 1) fun v310 =>
  xI N xs (x4 + 2) fun v311 =>
  cV h309 x2 11 (f_X13_inside x2 v310 v311 h309) fun v312 h313 =>
  cV h313 x2 11 (f_X13_thrown x2 h313) fun v314 h315 =>
  (if v314 = v308 then
  (if ¬ v308 = 0 then
  R23 x1 x2 x3 (x4 + 6) h315
  else
  aL h315 x3 0 fun v318 =>
  (if (lg_cmp v318 v312.toInt64) = 0 then
  R23 x1 x2 x3 (x4 + 6) h315
  else
  some (0, h315)))
  else
  some (0, h315))
  else
  (if (v10 &&& 63) = 9 then
  xI N xs (x4 + 1) fun v292 =>
  xI N xs (x4 + 2) fun v293 =>
  bd (f_L_outside x1 v292 v293 x3 h) fun v294 h295 =>
  xI N xs (x4 + 1) fun v296 =>
  xI N xs (x4 + 2) fun v297 =>
  cV h295 x2 11 (f_X13_outside x2 v296 v297 h295) fun v298 h299 =>
  cV h299 x2 11 (f_X13_thrown x2 h299) fun v300 h301 =>
  (if v300 = v294 then
  (if ¬ v294 = 0 then
  R23 x1 x2 x3 (x4 + 6) h301
  else
  aL h301 x3 0 fun v304 =>
  (if (lg_cmp v304 v298.toInt64) = 0 then
  R23 x1 x2 x3 (x4 + 6) h301
  else
  some (0, h301)))
  else
  some (0, h301))
  else
  (if (v10 &&& 63) = 10 then
  xI N xs (x4 + 1) fun v276 =>
  xI N xs (x4 + 2) fun v277 =>
  xI N xs (x4 + 3) fun v278 =>
  bd (f_L_range x1 v276 v277 v278 x3 h) fun v279 h280 =>
  xI N xs (x4 + 1) fun v281 =>
  xI N xs (x4 + 2) fun v282 =>
  xI N xs (x4 + 3) fun v283 =>
  cV h280 x2 11 (f_X13_range x2 v281 v282 v283 h280) fun v284 h285 =>
  cV h285 x2 11 (f_X13_thrown x2 h285) fun v286 h287 =>
  (if v286 = v279 then
  (if ¬ v279 = 0 then
  R23 x1 x2 x3 (x4 + 6) h287
  else
  aL h287 x3 0 fun v290 =>
  (if (lg_cmp v290 v284.toInt64) = 0 then
  R23 x1 x2 x3 (x4 + 6) h287
  else
  some (0, h287)))
  else
  some (0, h287))
  else
  (if (v10 &&& 63) = 11 then
  xI N xs (x4 + 1) fun v262 =>
  xI N xs (x4 + 2) fun v263 =>
  bd (f_L_mounted x1 v262 v263 x3 h) fun v264 h265 =>
  xI N xs (x4 + 1) fun v266 =>
  xI N xs (x4 + 2) fun v267 =>
  cV h265 x2 11 (f_X13_mounted x2 v266 v267 h265) fun v268 h269 =>
  cV h269 x2 11 (f_X13_thrown x2 h269) fun v270 h271 =>
  (if v270 = v264 then
  (if ¬ v264 = 0 then
  R23 x1 x2 x3 (x4 + 6) h271
  else
  aL h271 x3 0 fun v274 =>
  (if (lg_cmp v274 v268.toInt64) = 0 then
  R23 x1 x2 x3 (x4 + 6) h271
  else
  some (0, h271)))
  else
  some (0, h271))
  else
  (if (v10 &&& 63) = 12 then
  xI N xs (x4 + 1) fun v246 =>
  xI N xs (x4 + 2) fun v247 =>
  xI N xs (x4 + 3) fun v248 =>
  bd (f_L_may x1 v246 v247 v248 x3 h) fun v249 h250 =>
  xI N xs (x4 + 1) fun v251 =>
  xI N xs (x4 + 2) fun v252 =>
  xI N xs (x4 + 3) fun v253 =>
  cV h250 x2 11 (f_X13_may x2 v251 v252 v253 h250) fun v254 h255 =>
  cV h255 x2 11 (f_X13_thrown x2 h255) fun v256 h257 =>
  (if v256 = v249 then
  (if ¬ v249 = 0 then
  R23 x1 x2 x3 (x4 + 6) h257
  else
  aL h257 x3 0 fun v260 =>
  (if (lg_cmp v260 v254.toInt64) = 0 then
  R23 x1 x2 x3 (x4 + 6) h257
  else
  some (0, h257)))
  else
  some (0, h257))
  else
  (if (v10 &&& 63) = 13 then
  xI N xs (x4 + 1) fun v232 =>
  xI N xs (x4 + 2) fun v233 =>
  bd (f_L_over x1 v232 v233 x3 h) fun v234 h235 =>
  xI N xs (x4 + 1) fun v236 =>
  xI N xs (x4 + 2) fun v237 =>
  cV h235 x2 11 (f_X13_over x2 v236 v237 h235) fun v238 h239 =>
  cV h239 x2 11 (f_X13_thrown x2 h239) fun v240 h241 =>
  (if v240 = v234 then
  (if ¬ v234 = 0 then
  R23 x1 x2 x3 (x4 + 6) h241
  else
  aL h241 x3 0 fun v244 =>
  (if (lg_cmp v244 v238.toInt64) = 0 then
  R23 x1 x2 x3 (x4 + 6) h241
  else
  some (0, h241)))
  else
  some (0, h241))
  else
  (if (v10 &&& 63) = 14 then
  xI N xs (x4 + 1) fun v225 =>
  cV h x1 10 (f_X12_fork x1 v225 h) fun v226 h227 =>
  xI N xs (x4 + 1) fun v228 =>
  cV h227 x2 11 (f_X13_fork x2 v228 h227) fun v229 h230 =>
  (if v226 = v229 then
  R23 x1 x2 x3 (x4 + 6) h230
  else
  some (0, h230))
  else
  (if (v10 &&& 63) = 15 then
  xI N xs (x4 + 1) fun v216 =>
  xI N xs (x4 + 2) fun v217 =>
  cV h x1 10 (f_X12_create x1 v216 v217 h) fun v218 h219 =>
  xI N xs (x4 + 1) fun v220 =>
  xI N xs (x4 + 2) fun v221 =>
  cV h219 x2 11 (f_X13_create x2 v220 v221 h219) fun v222 h223 =>
  (if v218 = v222 then
  R23 x1 x2 x3 (x4 + 6) h223
  else
  some (0, h223))
  else
  (if (v10 &&& 63) = 16 then
  xI N xs (x4 + 1) fun v201 =>
  xI N xs (x4 + 2) fun v202 =>
  xI N xs (x4 + 3) fun v203 =>
  xI N xs (x4 + 4) fun v204 =>
  xI N xs (x4 + 5) fun v205 =>
  cV h x1 10 (f_X12_map x1 v201 v202 v203 v204 v205 h) fun v206 h207 =>
  xI N xs (x4 + 1) fun v208 =>
  xI N xs (x4 + 2) fun v209 =>
  xI N xs (x4 + 3) fun v210 =>
  xI N xs (x4 + 4) fun v211 =>
  xI N xs (x4 + 5) fun v212 =>
  cV h207 x2 11 (f_X13_map x2 v208 v209 v210 v211 v212 h207) fun v213 h214 =>
  (if v206 = v213 then
  R23 x1 x2 x3 (x4 + 6) h214
  else
  some (0, h214))
  else
  (if (v10 &&& 63) = 17 then
  xI N xs (x4 + 1) fun v192 =>
  xI N xs (x4 + 2) fun v193 =>
  cV h x1 10 (f_X12_become x1 v192 v193 h) fun v194 h195 =>
  xI N xs (x4 + 1) fun v196 =>
  xI N xs (x4 + 2) fun v197 =>
  cV h195 x2 11 (f_X13_become x2 v196 v197 h195) fun v198 h199 =>
  (if v194 = v198 then
  R23 x1 x2 x3 (x4 + 6) h199
  else
  some (0, h199))
  else
  (if (v10 &&& 63) = 18 then
  xI N xs (x4 + 1) fun v181 =>
  xI N xs (x4 + 2) fun v182 =>
  xI N xs (x4 + 3) fun v183 =>
  cV h x1 10 (f_X12_mount x1 v181 v182 v183 h) fun v184 h185 =>
  xI N xs (x4 + 1) fun v186 =>
  xI N xs (x4 + 2) fun v187 =>
  xI N xs (x4 + 3) fun v188 =>
  cV h185 x2 11 (f_X13_mount x2 v186 v187 v188 h185) fun v189 h190 =>
  (if v184 = v189 then
  R23 x1 x2 x3 (x4 + 6) h190
  else
  some (0, h190))
  else
  (if (v10 &&& 63) = 19 then
  xI N xs (x4 + 1) fun v174 =>
  cV h x1 10 (f_X12_share x1 v174 h) fun v175 h176 =>
  xI N xs (x4 + 1) fun v177 =>
  cV h176 x2 11 (f_X13_share x2 v177 h176) fun v178 h179 =>
  (if v175 = v178 then
  R23 x1 x2 x3 (x4 + 6) h179
  else
  some (0, h179))
  else
  (if (v10 &&& 63) = 20 then
  xI N xs (x4 + 1) fun v163 =>
  xI N xs (x4 + 2) fun v164 =>
  xI N xs (x4 + 3) fun v165 =>
  cV h x1 10 (f_X12_enter x1 v163 v164 v165 h) fun v166 h167 =>
  xI N xs (x4 + 1) fun v168 =>
  xI N xs (x4 + 2) fun v169 =>
  xI N xs (x4 + 3) fun v170 =>
  cV h167 x2 11 (f_X13_enter x2 v168 v169 v170 h167) fun v171 h172 =>
  (if v166 = v171 then
  R23 x1 x2 x3 (x4 + 6) h172
  else
  some (0, h172))
  else
  (if (v10 &&& 63) = 21 then
  xI N xs (x4 + 1) fun v156 =>
  cV h x1 10 (f_X12_end x1 v156 h) fun v157 h158 =>
  xI N xs (x4 + 1) fun v159 =>
  cV h158 x2 11 (f_X13_end x2 v159 h158) fun v160 h161 =>
  (if v157 = v160 then
  R23 x1 x2 x3 (x4 + 6) h161
  else
  some (0, h161))
  else
  (if (v10 &&& 63) = 22 then
  xI N xs (x4 + 1) fun v147 =>
  xI N xs (x4 + 2) fun v148 =>
  cV h x1 10 (f_X12_kill x1 v147 v148 h) fun v149 h150 =>
  xI N xs (x4 + 1) fun v151 =>
  xI N xs (x4 + 2) fun v152 =>
  cV h150 x2 11 (f_X13_kill x2 v151 v152 h150) fun v153 h154 =>
  (if v149 = v153 then
  R23 x1 x2 x3 (x4 + 6) h154
  else
  some (0, h154))
  else
  (if (v10 &&& 63) = 23 then
  cV h x1 10 (f_X12_undo x1 h) fun v142 h143 =>
  cV h143 x2 11 (f_X13_undo x2 h143) fun v144 h145 =>
  (if v142 = v144 then
  R23 x1 x2 x3 (x4 + 6) h145
  else
  some (0, h145))
  else
  (if (v10 &&& 63) = 24 then
  xI N xs (x4 + 1) fun v128 =>
  xI N xs (x4 + 2) fun v129 =>
  bd (f_L_set x1 v128 v129 x3 h) fun v130 h131 =>
  xI N xs (x4 + 1) fun v132 =>
  xI N xs (x4 + 2) fun v133 =>
  cV h131 x2 11 (f_X13_set x2 v132 v133 h131) fun v134 h135 =>
  cV h135 x2 11 (f_X13_thrown x2 h135) fun v136 h137 =>
  (if v136 = v130 then
  (if ¬ v130 = 0 then
  R23 x1 x2 x3 (x4 + 6) h137
  else
  aL h137 x3 0 fun v140 =>
  (if (lg_cmp v140 v134.toInt64) = 0 then
  R23 x1 x2 x3 (x4 + 6) h137
  else
  some (0, h137)))
  else
  some (0, h137))
  else
  (if (v10 &&& 63) = 25 then
  xI N xs (x4 + 1) fun v114 =>
  xI N xs (x4 + 2) fun v115 =>
  bd (f_L_shared x1 v114 v115 x3 h) fun v116 h117 =>
  xI N xs (x4 + 1) fun v118 =>
  xI N xs (x4 + 2) fun v119 =>
  cV h117 x2 11 (f_X13_shared x2 v118 v119 h117) fun v120 h121 =>
  cV h121 x2 11 (f_X13_thrown x2 h121) fun v122 h123 =>
  (if v122 = v116 then
  (if ¬ v116 = 0 then
  R23 x1 x2 x3 (x4 + 6) h123
  else
  aL h123 x3 0 fun v126 =>
  (if (lg_cmp v126 v120.toInt64) = 0 then
  R23 x1 x2 x3 (x4 + 6) h123
  else
  some (0, h123)))
  else
  some (0, h123))
  else
  (if (v10 &&& 63) = 26 then
  xI N xs (x4 + 1) fun v100 =>
  xI N xs (x4 + 2) fun v101 =>
  bd (f_L_steps x1 v100 v101 x3 h) fun v102 h103 =>
  xI N xs (x4 + 1) fun v104 =>
  xI N xs (x4 + 2) fun v105 =>
  cV h103 x2 11 (f_X13_steps x2 v104 v105 h103) fun v106 h107 =>
  cV h107 x2 11 (f_X13_thrown x2 h107) fun v108 h109 =>
  (if v108 = v102 then
  (if ¬ v102 = 0 then
  R23 x1 x2 x3 (x4 + 6) h109
  else
  aL h109 x3 0 fun v112 =>
  (if (lg_cmp v112 v106.toInt64) = 0 then
  R23 x1 x2 x3 (x4 + 6) h109
  else
  some (0, h109)))
  else
  some (0, h109))
  else
  (if (v10 &&& 63) = 27 then
  xI N xs (x4 + 1) fun v87 =>
  xI N xs (x4 + 2) fun v88 =>
  xI N xs (x4 + 3) fun v89 =>
  (if v89 = 0 then
  f_L_law_b1707 N xs R23 K23 x1 x2 x3 x4 0 v88 v87 x1 h
  else
  f_L_law_b1707 N xs R23 K23 x1 x2 x3 x4 1 v88 v87 x1 h)
  else
  (if (v10 &&& 63) = 28 then
  cV h x1 10 (f_X12_fits x1 h) fun v82 h83 =>
  cV h83 x2 11 (f_X13_fits x2 h83) fun v84 h85 =>
  (if v82 = v84 then
  R23 x1 x2 x3 (x4 + 6) h85
  else
  some (0, h85))
  else
  (if (v10 &&& 63) = 29 then
  xI N xs (x4 + 1) fun v70 =>
  bd (f_L_look x1 v70 x3 h) fun v71 h72 =>
  xI N xs (x4 + 1) fun v73 =>
  cV h72 x2 11 (f_X13_look x2 v73 h72) fun v74 h75 =>
  cV h75 x2 11 (f_X13_thrown x2 h75) fun v76 h77 =>
  (if v76 = v71 then
  (if ¬ v71 = 0 then
  R23 x1 x2 x3 (x4 + 6) h77
  else
  aL h77 x3 0 fun v80 =>
  (if (lg_cmp v80 v74.toInt64) = 0 then
  R23 x1 x2 x3 (x4 + 6) h77
  else
  some (0, h77)))
  else
  some (0, h77))
  else
  (if (v10 &&& 63) = 30 then
  cV h x1 10 (f_X12_forget x1 h) fun _ h68 =>
  cV h68 x2 11 (f_X13_forget x2 h68) fun _ h69 =>
  R23 x1 x2 x3 (x4 + 6) h69
  else
  (if (v10 &&& 63) = 31 then
  xI N xs (x4 + 1) fun v52 =>
  xI N xs (x4 + 2) fun v53 =>
  xI N xs (x4 + 3) fun v54 =>
  bd (f_L_years x1 v52 v53 v54 x3 h) fun v55 h56 =>
  xI N xs (x4 + 1) fun v57 =>
  xI N xs (x4 + 2) fun v58 =>
  xI N xs (x4 + 3) fun v59 =>
  cV h56 x2 11 (f_X13_years x2 v57 v58 v59 h56) fun v60 h61 =>
  cV h61 x2 11 (f_X13_thrown x2 h61) fun v62 h63 =>
  (if v62 = v55 then
  (if ¬ v55 = 0 then
  R23 x1 x2 x3 (x4 + 6) h63
  else
  aL h63 x3 0 fun v66 =>
  (if (lg_cmp v66 v60.toInt64) = 0 then
  R23 x1 x2 x3 (x4 + 6) h63
  else
  some (0, h63)))
  else
  some (0, h63))
  else
  (if (v10 &&& 63) = 32 then
  cV h x1 10 (f_X12_image x1 h) fun _ h50 =>
  cV h50 x2 11 (f_X13_image x2 h50) fun _ h51 =>
  R23 x1 x2 x3 (x4 + 6) h51
  else
  (if (v10 &&& 63) = 33 then
  cV h x1 10 (f_X12_restore x1 h) fun v45 h46 =>
  cV h46 x2 11 (f_X13_restore x2 h46) fun v47 h48 =>
  (if v45 = v47 then
  R23 x1 x2 x3 (x4 + 6) h48
  else
  some (0, h48))
  else
  R23 x1 x2 x3 (x4 + 6) h)))))))))))))))))))))))))))))))))))
theorem o_f_L_law_h23 {X : jx} {b0 : Nat × Nat} {K23 : jh → Option (Int32 × jh)} (hK23 : ∀  (h : jh), jv_O X M_L_law b0 jeI 1935 [none, none, none, none, none, none, none] [] h (K23  h)) : ∀ (x1 : Nat) (x2 : Nat) (x3 : Nat) (x4 : Int32) (h : jh), jv_O X M_L_law b0 jeI 23 [some (.ref (jv_ad X 13)), some (.ref (x1)), some (.ref (x2)), some (.ref (x3)), some (.int (x4)), none, none] [] h (jlp4 (f_L_law_h23 X.2.2.2.2.2.1 X.2.2.2.2.2.2 K23) jfu x1 x2 x3 x4 h) := by
  refine jlp4_ok (P := fun x1 x2 x3 x4 h o => jv_O X M_L_law b0 jeI 23 [some (.ref (jv_ad X 13)), some (.ref (x1)), some (.ref (x2)), some (.ref (x3)), some (.int (x4)), none, none] [] h o) (fun R23 hR23 => ?_) (fun _ _ _ _ _  => jv_none rfl) jfu
  intro x1 x2 x3 x4 h
  unfold f_L_law_h23
  refine jv_iload (jv_dk t_L_law (k := 13) rfl) rfl ?_
  refine jv_aload_n (jv_dk t_L_law (k := 14) rfl) rfl rfl (Or.inr ⟨_, rfl⟩) ?_
  refine jv_xlen (jv_dk t_L_law (k := 15) rfl) ?_
  refine jv_bipush (v := 6) (jv_dk t_L_law (k := 16) rfl) (by decide) ?_
  refine jv_isub (jv_dk t_L_law (k := 17) rfl) ?_
  refine jv_icmp_gt (tgt := 1935) (jv_dk t_L_law (k := 18) rfl) rfl (fun c9 => ?_) (fun c9 => ?_)
  · refine jv_le_row (jv_le_n (jv_le_n (jv_le_n (jv_le_n (jv_le_n (jv_le_n (jv_le_n (jv_le_nil)))))))) ?_
    exact hK23 _ 
  · show jv_O _ _ _ _ 33 _ _ _ _
    refine jv_aload_n (jv_dk t_L_law (k := 19) rfl) rfl rfl (Or.inr ⟨_, rfl⟩) ?_
    refine jv_iload (jv_dk t_L_law (k := 20) rfl) rfl ?_
    refine jv_xI (jv_dk t_L_law (k := 21) rfl) (fun v10 => ?_)
    refine jv_bipush (v := 63) (jv_dk t_L_law (k := 22) rfl) (by decide) ?_
    refine jv_iand (jv_dk t_L_law (k := 23) rfl) ?_
    by_cases c11 : (v10 &&& 63) = 0
    · rw [if_pos c11]
      refine jv_tbl (tgt := 192) (jv_dk t_L_law (k := 24) rfl) (by rw [c11] <;> decide) (by rw [c11] <;> decide) (by rw [c11] <;> rfl) rfl ?_
      refine jv_aload_n (jv_dk t_L_law (k := 25) rfl) rfl rfl (Or.inr ⟨_, rfl⟩) ?_
      refine jv_aload_n (jv_dk t_L_law (k := 26) rfl) rfl rfl (Or.inr ⟨_, rfl⟩) ?_
      refine jv_iload (jv_dk t_L_law (k := 27) rfl) rfl ?_
      refine jv_iconst (v := 1) (jv_dk t_L_law (k := 28) rfl) (by decide) ?_
      refine jv_iadd (jv_dk t_L_law (k := 29) rfl) ?_
      refine jv_xI (jv_dk t_L_law (k := 30) rfl) (fun v407 => ?_)
      refine jv_aload_n (jv_dk t_L_law (k := 31) rfl) rfl rfl (Or.inr ⟨_, rfl⟩) ?_
      refine jv_iload (jv_dk t_L_law (k := 32) rfl) rfl ?_
      refine jv_iconst (v := 2) (jv_dk t_L_law (k := 33) rfl) (by decide) ?_
      refine jv_iadd (jv_dk t_L_law (k := 34) rfl) ?_
      refine jv_xI (jv_dk t_L_law (k := 35) rfl) (fun v408 => ?_)
      refine jv_aload_n (jv_dk t_L_law (k := 36) rfl) rfl rfl (Or.inr ⟨_, rfl⟩) ?_
      refine jv_iload (jv_dk t_L_law (k := 37) rfl) rfl ?_
      refine jv_iconst (v := 3) (jv_dk t_L_law (k := 38) rfl) (by decide) ?_
      refine jv_iadd (jv_dk t_L_law (k := 39) rfl) ?_
      refine jv_xI (jv_dk t_L_law (k := 40) rfl) (fun v409 => ?_)
      refine jv_aload_n (jv_dk t_L_law (k := 41) rfl) rfl rfl (Or.inr ⟨_, rfl⟩) ?_
      refine jv_iload (jv_dk t_L_law (k := 42) rfl) rfl ?_
      refine jv_iconst (v := 4) (jv_dk t_L_law (k := 43) rfl) (by decide) ?_
      refine jv_iadd (jv_dk t_L_law (k := 44) rfl) ?_
      refine jv_xI (jv_dk t_L_law (k := 45) rfl) (fun v410 => ?_)
      refine jv_aload_n (jv_dk t_L_law (k := 46) rfl) rfl rfl (Or.inr ⟨_, rfl⟩) ?_
      refine jv_iload (jv_dk t_L_law (k := 47) rfl) rfl ?_
      refine jv_iconst (v := 5) (jv_dk t_L_law (k := 48) rfl) (by decide) ?_
      refine jv_iadd (jv_dk t_L_law (k := 49) rfl) ?_
      refine jv_xI (jv_dk t_L_law (k := 50) rfl) (fun v411 => ?_)
      refine jv_callV (en' := jeI) (pv := jpI) (As := [.int (v407), .int (v408), .int (v409), .int (v410), .int (v411)]) (S := []) (jv_dk t_L_law (k := 51) rfl) (fun _ => rfl) (Or.inl lk_L_71) me_X12_feed mv_X12_feed ⟨by decide, by decide⟩ rfl rfl rfl (Nat.le_of_ble_eq_true rfl) (P_X12_feed X x1 v407 v408 v409 v410 v411 h) (fun v412 h413 => ?_)
      show jv_O X M_L_law _ jeI 226 [some (.ref (jv_ad X 13)), some (.ref (x1)), some (.ref (x2)), some (.ref (x3)), some (.int (x4)), none, none] [.int (v412)] h413 _
      refine jv_aload_n (jv_dk t_L_law (k := 52) rfl) rfl rfl (Or.inr ⟨_, rfl⟩) ?_
      refine jv_aload_n (jv_dk t_L_law (k := 53) rfl) rfl rfl (Or.inr ⟨_, rfl⟩) ?_
      refine jv_iload (jv_dk t_L_law (k := 54) rfl) rfl ?_
      refine jv_iconst (v := 1) (jv_dk t_L_law (k := 55) rfl) (by decide) ?_
      refine jv_iadd (jv_dk t_L_law (k := 56) rfl) ?_
      refine jv_xI (jv_dk t_L_law (k := 57) rfl) (fun v414 => ?_)
      refine jv_aload_n (jv_dk t_L_law (k := 58) rfl) rfl rfl (Or.inr ⟨_, rfl⟩) ?_
      refine jv_iload (jv_dk t_L_law (k := 59) rfl) rfl ?_
      refine jv_iconst (v := 2) (jv_dk t_L_law (k := 60) rfl) (by decide) ?_
      refine jv_iadd (jv_dk t_L_law (k := 61) rfl) ?_
      refine jv_xI (jv_dk t_L_law (k := 62) rfl) (fun v415 => ?_)
      refine jv_aload_n (jv_dk t_L_law (k := 63) rfl) rfl rfl (Or.inr ⟨_, rfl⟩) ?_
      refine jv_iload (jv_dk t_L_law (k := 64) rfl) rfl ?_
      refine jv_iconst (v := 3) (jv_dk t_L_law (k := 65) rfl) (by decide) ?_
      refine jv_iadd (jv_dk t_L_law (k := 66) rfl) ?_
      refine jv_xI (jv_dk t_L_law (k := 67) rfl) (fun v416 => ?_)
      refine jv_aload_n (jv_dk t_L_law (k := 68) rfl) rfl rfl (Or.inr ⟨_, rfl⟩) ?_
      refine jv_iload (jv_dk t_L_law (k := 69) rfl) rfl ?_
      refine jv_iconst (v := 4) (jv_dk t_L_law (k := 70) rfl) (by decide) ?_
      refine jv_iadd (jv_dk t_L_law (k := 71) rfl) ?_
      refine jv_xI (jv_dk t_L_law (k := 72) rfl) (fun v417 => ?_)
      refine jv_aload_n (jv_dk t_L_law (k := 73) rfl) rfl rfl (Or.inr ⟨_, rfl⟩) ?_
      refine jv_iload (jv_dk t_L_law (k := 74) rfl) rfl ?_
      refine jv_iconst (v := 5) (jv_dk t_L_law (k := 75) rfl) (by decide) ?_
      refine jv_iadd (jv_dk t_L_law (k := 76) rfl) ?_
      refine jv_xI (jv_dk t_L_law (k := 77) rfl) (fun v418 => ?_)
      refine jv_callV (en' := jeI) (pv := jpI) (As := [.int (v414), .int (v415), .int (v416), .int (v417), .int (v418)]) (S := [.int (v412)]) (jv_dk t_L_law (k := 78) rfl) (fun _ => rfl) (Or.inl lk_L_75) me_X13_feed mv_X13_feed ⟨by decide, by decide⟩ rfl rfl rfl (Nat.le_of_ble_eq_true rfl) (P_X13_feed X x2 v414 v415 v416 v417 v418 h413) (fun v419 h420 => ?_)
      show jv_O X M_L_law _ jeI 260 [some (.ref (jv_ad X 13)), some (.ref (x1)), some (.ref (x2)), some (.ref (x3)), some (.int (x4)), none, none] [.int (v419), .int (v412)] h420 _
      refine jv_icmp_eq (tgt := 1929) (jv_dk t_L_law (k := 79) rfl) rfl (fun c421 => ?_) (fun c421 => ?_)
      · refine jv_iinc (v := 6) (L' := [some (.ref (jv_ad X 13)), some (.ref (x1)), some (.ref (x2)), some (.ref (x3)), some (.int (x4 + 6)), none, none]) (jv_dk t_L_law (k := 1203) rfl) rfl (by decide) rfl ?_
        refine jv_goto (tgt := 23) (jv_dk t_L_law (k := 1204) rfl) rfl ?_
        exact hR23 _ _ _ _ _ 
      · show jv_O _ _ _ _ 263 _ _ _ _
        refine jv_iconst (v := 0) (jv_dk t_L_law (k := 80) rfl) (by decide) ?_
        exact jv_iret (ty := .boolean) (jv_dk t_L_law (k := 81) rfl) rfl rfl rfl
    rw [if_neg c11]
    by_cases c12 : (v10 &&& 63) = 1
    · rw [if_pos c12]
      refine jv_tbl (tgt := 265) (jv_dk t_L_law (k := 24) rfl) (by rw [c12] <;> decide) (by rw [c12] <;> decide) (by rw [c12] <;> rfl) rfl ?_
      refine jv_aload_n (jv_dk t_L_law (k := 82) rfl) rfl rfl (Or.inr ⟨_, rfl⟩) ?_
      refine jv_aload_n (jv_dk t_L_law (k := 83) rfl) rfl rfl (Or.inr ⟨_, rfl⟩) ?_
      refine jv_iload (jv_dk t_L_law (k := 84) rfl) rfl ?_
      refine jv_iconst (v := 1) (jv_dk t_L_law (k := 85) rfl) (by decide) ?_
      refine jv_iadd (jv_dk t_L_law (k := 86) rfl) ?_
      refine jv_xI (jv_dk t_L_law (k := 87) rfl) (fun v395 => ?_)
      refine jv_aload_n (jv_dk t_L_law (k := 88) rfl) rfl rfl (Or.inr ⟨_, rfl⟩) ?_
      refine jv_callH (en' := jeI) (pv := jpI) (As := [.ref (x1), .int (v395), .ref (x3)]) (S := []) (jv_dk t_L_law (k := 89) rfl) (fun _ => rfl) lk_L_76 me_L_spaces ms_L_spaces ⟨by decide, by decide⟩ rfl rfl (Nat.le_of_ble_eq_true rfl) (P_L_spaces X x1 v395 x3 h) (fun v396 h397 => ?_)
      show jv_O X M_L_law _ jeI 276 [some (.ref (jv_ad X 13)), some (.ref (x1)), some (.ref (x2)), some (.ref (x3)), some (.int (x4)), none, none] [.int (v396)] h397 _
      refine jv_istore (L' := [some (.ref (jv_ad X 13)), some (.ref (x1)), some (.ref (x2)), some (.ref (x3)), some (.int (x4)), some (.int (v396)), none]) (jv_dk t_L_law (k := 90) rfl) (Nat.le_of_ble_eq_true rfl) rfl ?_
      refine jv_aload_n (jv_dk t_L_law (k := 91) rfl) rfl rfl (Or.inr ⟨_, rfl⟩) ?_
      refine jv_aload_n (jv_dk t_L_law (k := 92) rfl) rfl rfl (Or.inr ⟨_, rfl⟩) ?_
      refine jv_iload (jv_dk t_L_law (k := 93) rfl) rfl ?_
      refine jv_iconst (v := 1) (jv_dk t_L_law (k := 94) rfl) (by decide) ?_
      refine jv_iadd (jv_dk t_L_law (k := 95) rfl) ?_
      refine jv_xI (jv_dk t_L_law (k := 96) rfl) (fun v398 => ?_)
      refine jv_callV (en' := jeI) (pv := jpI) (As := [.int (v398)]) (S := []) (jv_dk t_L_law (k := 97) rfl) (fun _ => rfl) (Or.inl lk_L_81) me_X13_spaces mv_X13_spaces ⟨by decide, by decide⟩ rfl rfl rfl (Nat.le_of_ble_eq_true rfl) (P_X13_spaces X x2 v398 h397) (fun v399 h400 => ?_)
      show jv_O X M_L_law _ jeI 288 [some (.ref (jv_ad X 13)), some (.ref (x1)), some (.ref (x2)), some (.ref (x3)), some (.int (x4)), some (.int (v396)), none] [.int (v399)] h400 _
      refine jv_istore (L' := [some (.ref (jv_ad X 13)), some (.ref (x1)), some (.ref (x2)), some (.ref (x3)), some (.int (x4)), some (.int (v396)), some (.int (v399))]) (jv_dk t_L_law (k := 98) rfl) (Nat.le_of_ble_eq_true rfl) rfl ?_
      refine jv_aload_n (jv_dk t_L_law (k := 99) rfl) rfl rfl (Or.inr ⟨_, rfl⟩) ?_
      refine jv_callV (en' := jeI) (pv := jpI) (As := []) (S := []) (jv_dk t_L_law (k := 100) rfl) (fun _ => rfl) (Or.inl lk_L_82) me_X13_thrown mv_X13_thrown ⟨by decide, by decide⟩ rfl rfl rfl (Nat.le_of_ble_eq_true rfl) (P_X13_thrown X x2 h400) (fun v401 h402 => ?_)
      show jv_O X M_L_law _ jeI 294 [some (.ref (jv_ad X 13)), some (.ref (x1)), some (.ref (x2)), some (.ref (x3)), some (.int (x4)), some (.int (v396)), some (.int (v399))] [.int (v401)] h402 _
      refine jv_iload (jv_dk t_L_law (k := 101) rfl) rfl ?_
      refine jv_icmp_eq (tgt := 301) (jv_dk t_L_law (k := 102) rfl) rfl (fun c403 => ?_) (fun c403 => ?_)
      · refine jv_iload (jv_dk t_L_law (k := 105) rfl) rfl ?_
        refine jv_if_ne (tgt := 318) (jv_dk t_L_law (k := 106) rfl) rfl (fun c404 => ?_) (fun c404 => ?_)
        · refine jv_goto (tgt := 1929) (jv_dk t_L_law (k := 116) rfl) rfl ?_
          refine jv_iinc (v := 6) (L' := [some (.ref (jv_ad X 13)), some (.ref (x1)), some (.ref (x2)), some (.ref (x3)), some (.int (x4 + 6)), some (.int (v396)), some (.int (v399))]) (jv_dk t_L_law (k := 1203) rfl) rfl (by decide) rfl ?_
          refine jv_goto (tgt := 23) (jv_dk t_L_law (k := 1204) rfl) rfl ?_
          refine jv_le_row (jv_le_s (jv_le_s (jv_le_s (jv_le_s (jv_le_s (jv_le_n (jv_le_n (jv_le_nil)))))))) ?_
          exact hR23 _ _ _ _ _ 
        · show jv_O _ _ _ _ 306 _ _ _ _
          refine jv_aload_n (jv_dk t_L_law (k := 107) rfl) rfl rfl (Or.inr ⟨_, rfl⟩) ?_
          refine jv_iconst (v := 0) (jv_dk t_L_law (k := 108) rfl) (by decide) ?_
          refine jv_laload (jv_dk t_L_law (k := 109) rfl) (fun v405 => ?_)
          refine jv_iload (jv_dk t_L_law (k := 110) rfl) rfl ?_
          refine jv_i2l (jv_dk t_L_law (k := 111) rfl) ?_
          refine jv_lcmp (jv_dk t_L_law (k := 112) rfl) ?_
          refine jv_if_eq (tgt := 318) (jv_dk t_L_law (k := 113) rfl) rfl (fun c406 => ?_) (fun c406 => ?_)
          · refine jv_goto (tgt := 1929) (jv_dk t_L_law (k := 116) rfl) rfl ?_
            refine jv_iinc (v := 6) (L' := [some (.ref (jv_ad X 13)), some (.ref (x1)), some (.ref (x2)), some (.ref (x3)), some (.int (x4 + 6)), some (.int (v396)), some (.int (v399))]) (jv_dk t_L_law (k := 1203) rfl) rfl (by decide) rfl ?_
            refine jv_goto (tgt := 23) (jv_dk t_L_law (k := 1204) rfl) rfl ?_
            refine jv_le_row (jv_le_s (jv_le_s (jv_le_s (jv_le_s (jv_le_s (jv_le_n (jv_le_n (jv_le_nil)))))))) ?_
            exact hR23 _ _ _ _ _ 
          · show jv_O _ _ _ _ 316 _ _ _ _
            refine jv_iconst (v := 0) (jv_dk t_L_law (k := 114) rfl) (by decide) ?_
            exact jv_iret (ty := .boolean) (jv_dk t_L_law (k := 115) rfl) rfl rfl rfl
      · show jv_O _ _ _ _ 299 _ _ _ _
        refine jv_iconst (v := 0) (jv_dk t_L_law (k := 103) rfl) (by decide) ?_
        exact jv_iret (ty := .boolean) (jv_dk t_L_law (k := 104) rfl) rfl rfl rfl
    rw [if_neg c12]
    by_cases c13 : (v10 &&& 63) = 2
    · rw [if_pos c13]
      refine jv_tbl (tgt := 321) (jv_dk t_L_law (k := 24) rfl) (by rw [c13] <;> decide) (by rw [c13] <;> decide) (by rw [c13] <;> rfl) rfl ?_
      refine jv_aload_n (jv_dk t_L_law (k := 117) rfl) rfl rfl (Or.inr ⟨_, rfl⟩) ?_
      refine jv_callV (en' := jeI) (pv := jpI) (As := []) (S := []) (jv_dk t_L_law (k := 118) rfl) (fun _ => rfl) (Or.inl lk_L_86) me_X12_fault mv_X12_fault ⟨by decide, by decide⟩ rfl rfl rfl (Nat.le_of_ble_eq_true rfl) (P_X12_fault X x1 h) (fun v390 h391 => ?_)
      show jv_O X M_L_law _ jeI 325 [some (.ref (jv_ad X 13)), some (.ref (x1)), some (.ref (x2)), some (.ref (x3)), some (.int (x4)), none, none] [.int (v390)] h391 _
      refine jv_aload_n (jv_dk t_L_law (k := 119) rfl) rfl rfl (Or.inr ⟨_, rfl⟩) ?_
      refine jv_callV (en' := jeI) (pv := jpI) (As := []) (S := [.int (v390)]) (jv_dk t_L_law (k := 120) rfl) (fun _ => rfl) (Or.inl lk_L_89) me_X13_fault mv_X13_fault ⟨by decide, by decide⟩ rfl rfl rfl (Nat.le_of_ble_eq_true rfl) (P_X13_fault X x2 h391) (fun v392 h393 => ?_)
      show jv_O X M_L_law _ jeI 329 [some (.ref (jv_ad X 13)), some (.ref (x1)), some (.ref (x2)), some (.ref (x3)), some (.int (x4)), none, none] [.int (v392), .int (v390)] h393 _
      refine jv_icmp_eq (tgt := 1929) (jv_dk t_L_law (k := 121) rfl) rfl (fun c394 => ?_) (fun c394 => ?_)
      · refine jv_iinc (v := 6) (L' := [some (.ref (jv_ad X 13)), some (.ref (x1)), some (.ref (x2)), some (.ref (x3)), some (.int (x4 + 6)), none, none]) (jv_dk t_L_law (k := 1203) rfl) rfl (by decide) rfl ?_
        refine jv_goto (tgt := 23) (jv_dk t_L_law (k := 1204) rfl) rfl ?_
        exact hR23 _ _ _ _ _ 
      · show jv_O _ _ _ _ 332 _ _ _ _
        refine jv_iconst (v := 0) (jv_dk t_L_law (k := 122) rfl) (by decide) ?_
        exact jv_iret (ty := .boolean) (jv_dk t_L_law (k := 123) rfl) rfl rfl rfl
    rw [if_neg c13]
    by_cases c14 : (v10 &&& 63) = 3
    · rw [if_pos c14]
      refine jv_tbl (tgt := 334) (jv_dk t_L_law (k := 24) rfl) (by rw [c14] <;> decide) (by rw [c14] <;> decide) (by rw [c14] <;> rfl) rfl ?_
      refine jv_aload_n (jv_dk t_L_law (k := 124) rfl) rfl rfl (Or.inr ⟨_, rfl⟩) ?_
      refine jv_aload_n (jv_dk t_L_law (k := 125) rfl) rfl rfl (Or.inr ⟨_, rfl⟩) ?_
      refine jv_iload (jv_dk t_L_law (k := 126) rfl) rfl ?_
      refine jv_iconst (v := 1) (jv_dk t_L_law (k := 127) rfl) (by decide) ?_
      refine jv_iadd (jv_dk t_L_law (k := 128) rfl) ?_
      refine jv_xI (jv_dk t_L_law (k := 129) rfl) (fun v378 => ?_)
      refine jv_aload_n (jv_dk t_L_law (k := 130) rfl) rfl rfl (Or.inr ⟨_, rfl⟩) ?_
      refine jv_callH (en' := jeI) (pv := jpI) (As := [.ref (x1), .int (v378), .ref (x3)]) (S := []) (jv_dk t_L_law (k := 131) rfl) (fun _ => rfl) lk_L_90 me_L_count ms_L_count ⟨by decide, by decide⟩ rfl rfl (Nat.le_of_ble_eq_true rfl) (P_L_count X x1 v378 x3 h) (fun v379 h380 => ?_)
      show jv_O X M_L_law _ jeI 345 [some (.ref (jv_ad X 13)), some (.ref (x1)), some (.ref (x2)), some (.ref (x3)), some (.int (x4)), none, none] [.int (v379)] h380 _
      refine jv_istore (L' := [some (.ref (jv_ad X 13)), some (.ref (x1)), some (.ref (x2)), some (.ref (x3)), some (.int (x4)), some (.int (v379)), none]) (jv_dk t_L_law (k := 132) rfl) (Nat.le_of_ble_eq_true rfl) rfl ?_
      refine jv_aload_n (jv_dk t_L_law (k := 133) rfl) rfl rfl (Or.inr ⟨_, rfl⟩) ?_
      refine jv_aload_n (jv_dk t_L_law (k := 134) rfl) rfl rfl (Or.inr ⟨_, rfl⟩) ?_
      refine jv_iload (jv_dk t_L_law (k := 135) rfl) rfl ?_
      refine jv_iconst (v := 1) (jv_dk t_L_law (k := 136) rfl) (by decide) ?_
      refine jv_iadd (jv_dk t_L_law (k := 137) rfl) ?_
      refine jv_xI (jv_dk t_L_law (k := 138) rfl) (fun v381 => ?_)
      refine jv_callV (en' := jeI) (pv := jpI) (As := [.int (v381)]) (S := []) (jv_dk t_L_law (k := 139) rfl) (fun _ => rfl) (Or.inl lk_L_92) me_X13_count mv_X13_count ⟨by decide, by decide⟩ rfl rfl rfl (Nat.le_of_ble_eq_true rfl) (P_X13_count X x2 v381 h380) (fun v382 h383 => ?_)
      show jv_O X M_L_law _ jeI 357 [some (.ref (jv_ad X 13)), some (.ref (x1)), some (.ref (x2)), some (.ref (x3)), some (.int (x4)), some (.int (v379)), none] [.int (v382)] h383 _
      refine jv_istore (L' := [some (.ref (jv_ad X 13)), some (.ref (x1)), some (.ref (x2)), some (.ref (x3)), some (.int (x4)), some (.int (v379)), some (.int (v382))]) (jv_dk t_L_law (k := 140) rfl) (Nat.le_of_ble_eq_true rfl) rfl ?_
      refine jv_aload_n (jv_dk t_L_law (k := 141) rfl) rfl rfl (Or.inr ⟨_, rfl⟩) ?_
      refine jv_callV (en' := jeI) (pv := jpI) (As := []) (S := []) (jv_dk t_L_law (k := 142) rfl) (fun _ => rfl) (Or.inl lk_L_82) me_X13_thrown mv_X13_thrown ⟨by decide, by decide⟩ rfl rfl rfl (Nat.le_of_ble_eq_true rfl) (P_X13_thrown X x2 h383) (fun v384 h385 => ?_)
      show jv_O X M_L_law _ jeI 363 [some (.ref (jv_ad X 13)), some (.ref (x1)), some (.ref (x2)), some (.ref (x3)), some (.int (x4)), some (.int (v379)), some (.int (v382))] [.int (v384)] h385 _
      refine jv_iload (jv_dk t_L_law (k := 143) rfl) rfl ?_
      refine jv_icmp_eq (tgt := 370) (jv_dk t_L_law (k := 144) rfl) rfl (fun c386 => ?_) (fun c386 => ?_)
      · refine jv_iload (jv_dk t_L_law (k := 147) rfl) rfl ?_
        refine jv_if_ne (tgt := 387) (jv_dk t_L_law (k := 148) rfl) rfl (fun c387 => ?_) (fun c387 => ?_)
        · refine jv_goto (tgt := 1929) (jv_dk t_L_law (k := 158) rfl) rfl ?_
          refine jv_iinc (v := 6) (L' := [some (.ref (jv_ad X 13)), some (.ref (x1)), some (.ref (x2)), some (.ref (x3)), some (.int (x4 + 6)), some (.int (v379)), some (.int (v382))]) (jv_dk t_L_law (k := 1203) rfl) rfl (by decide) rfl ?_
          refine jv_goto (tgt := 23) (jv_dk t_L_law (k := 1204) rfl) rfl ?_
          refine jv_le_row (jv_le_s (jv_le_s (jv_le_s (jv_le_s (jv_le_s (jv_le_n (jv_le_n (jv_le_nil)))))))) ?_
          exact hR23 _ _ _ _ _ 
        · show jv_O _ _ _ _ 375 _ _ _ _
          refine jv_aload_n (jv_dk t_L_law (k := 149) rfl) rfl rfl (Or.inr ⟨_, rfl⟩) ?_
          refine jv_iconst (v := 0) (jv_dk t_L_law (k := 150) rfl) (by decide) ?_
          refine jv_laload (jv_dk t_L_law (k := 151) rfl) (fun v388 => ?_)
          refine jv_iload (jv_dk t_L_law (k := 152) rfl) rfl ?_
          refine jv_i2l (jv_dk t_L_law (k := 153) rfl) ?_
          refine jv_lcmp (jv_dk t_L_law (k := 154) rfl) ?_
          refine jv_if_eq (tgt := 387) (jv_dk t_L_law (k := 155) rfl) rfl (fun c389 => ?_) (fun c389 => ?_)
          · refine jv_goto (tgt := 1929) (jv_dk t_L_law (k := 158) rfl) rfl ?_
            refine jv_iinc (v := 6) (L' := [some (.ref (jv_ad X 13)), some (.ref (x1)), some (.ref (x2)), some (.ref (x3)), some (.int (x4 + 6)), some (.int (v379)), some (.int (v382))]) (jv_dk t_L_law (k := 1203) rfl) rfl (by decide) rfl ?_
            refine jv_goto (tgt := 23) (jv_dk t_L_law (k := 1204) rfl) rfl ?_
            refine jv_le_row (jv_le_s (jv_le_s (jv_le_s (jv_le_s (jv_le_s (jv_le_n (jv_le_n (jv_le_nil)))))))) ?_
            exact hR23 _ _ _ _ _ 
          · show jv_O _ _ _ _ 385 _ _ _ _
            refine jv_iconst (v := 0) (jv_dk t_L_law (k := 156) rfl) (by decide) ?_
            exact jv_iret (ty := .boolean) (jv_dk t_L_law (k := 157) rfl) rfl rfl rfl
      · show jv_O _ _ _ _ 368 _ _ _ _
        refine jv_iconst (v := 0) (jv_dk t_L_law (k := 145) rfl) (by decide) ?_
        exact jv_iret (ty := .boolean) (jv_dk t_L_law (k := 146) rfl) rfl rfl rfl
    rw [if_neg c14]
    by_cases c15 : (v10 &&& 63) = 4
    · rw [if_pos c15]
      refine jv_tbl (tgt := 390) (jv_dk t_L_law (k := 24) rfl) (by rw [c15] <;> decide) (by rw [c15] <;> decide) (by rw [c15] <;> rfl) rfl ?_
      refine jv_aload_n (jv_dk t_L_law (k := 159) rfl) rfl rfl (Or.inr ⟨_, rfl⟩) ?_
      refine jv_aload_n (jv_dk t_L_law (k := 160) rfl) rfl rfl (Or.inr ⟨_, rfl⟩) ?_
      refine jv_iload (jv_dk t_L_law (k := 161) rfl) rfl ?_
      refine jv_iconst (v := 1) (jv_dk t_L_law (k := 162) rfl) (by decide) ?_
      refine jv_iadd (jv_dk t_L_law (k := 163) rfl) ?_
      refine jv_xI (jv_dk t_L_law (k := 164) rfl) (fun v364 => ?_)
      refine jv_aload_n (jv_dk t_L_law (k := 165) rfl) rfl rfl (Or.inr ⟨_, rfl⟩) ?_
      refine jv_iload (jv_dk t_L_law (k := 166) rfl) rfl ?_
      refine jv_iconst (v := 2) (jv_dk t_L_law (k := 167) rfl) (by decide) ?_
      refine jv_iadd (jv_dk t_L_law (k := 168) rfl) ?_
      refine jv_xI (jv_dk t_L_law (k := 169) rfl) (fun v365 => ?_)
      refine jv_aload_n (jv_dk t_L_law (k := 170) rfl) rfl rfl (Or.inr ⟨_, rfl⟩) ?_
      refine jv_callH (en' := jeI) (pv := jpI) (As := [.ref (x1), .int (v364), .int (v365), .ref (x3)]) (S := []) (jv_dk t_L_law (k := 171) rfl) (fun _ => rfl) lk_L_93 me_L_process ms_L_process ⟨by decide, by decide⟩ rfl rfl (Nat.le_of_ble_eq_true rfl) (P_L_process X x1 v364 v365 x3 h) (fun v366 h367 => ?_)
      show jv_O X M_L_law _ jeI 407 [some (.ref (jv_ad X 13)), some (.ref (x1)), some (.ref (x2)), some (.ref (x3)), some (.int (x4)), none, none] [.int (v366)] h367 _
      refine jv_istore (L' := [some (.ref (jv_ad X 13)), some (.ref (x1)), some (.ref (x2)), some (.ref (x3)), some (.int (x4)), some (.int (v366)), none]) (jv_dk t_L_law (k := 172) rfl) (Nat.le_of_ble_eq_true rfl) rfl ?_
      refine jv_aload_n (jv_dk t_L_law (k := 173) rfl) rfl rfl (Or.inr ⟨_, rfl⟩) ?_
      refine jv_aload_n (jv_dk t_L_law (k := 174) rfl) rfl rfl (Or.inr ⟨_, rfl⟩) ?_
      refine jv_iload (jv_dk t_L_law (k := 175) rfl) rfl ?_
      refine jv_iconst (v := 1) (jv_dk t_L_law (k := 176) rfl) (by decide) ?_
      refine jv_iadd (jv_dk t_L_law (k := 177) rfl) ?_
      refine jv_xI (jv_dk t_L_law (k := 178) rfl) (fun v368 => ?_)
      refine jv_aload_n (jv_dk t_L_law (k := 179) rfl) rfl rfl (Or.inr ⟨_, rfl⟩) ?_
      refine jv_iload (jv_dk t_L_law (k := 180) rfl) rfl ?_
      refine jv_iconst (v := 2) (jv_dk t_L_law (k := 181) rfl) (by decide) ?_
      refine jv_iadd (jv_dk t_L_law (k := 182) rfl) ?_
      refine jv_xI (jv_dk t_L_law (k := 183) rfl) (fun v369 => ?_)
      refine jv_callV (en' := jeI) (pv := jpI) (As := [.int (v368), .int (v369)]) (S := []) (jv_dk t_L_law (k := 184) rfl) (fun _ => rfl) (Or.inl lk_L_96) me_X13_process mv_X13_process ⟨by decide, by decide⟩ rfl rfl rfl (Nat.le_of_ble_eq_true rfl) (P_X13_process X x2 v368 v369 h367) (fun v370 h371 => ?_)
      show jv_O X M_L_law _ jeI 425 [some (.ref (jv_ad X 13)), some (.ref (x1)), some (.ref (x2)), some (.ref (x3)), some (.int (x4)), some (.int (v366)), none] [.int (v370)] h371 _
      refine jv_istore (L' := [some (.ref (jv_ad X 13)), some (.ref (x1)), some (.ref (x2)), some (.ref (x3)), some (.int (x4)), some (.int (v366)), some (.int (v370))]) (jv_dk t_L_law (k := 185) rfl) (Nat.le_of_ble_eq_true rfl) rfl ?_
      refine jv_aload_n (jv_dk t_L_law (k := 186) rfl) rfl rfl (Or.inr ⟨_, rfl⟩) ?_
      refine jv_callV (en' := jeI) (pv := jpI) (As := []) (S := []) (jv_dk t_L_law (k := 187) rfl) (fun _ => rfl) (Or.inl lk_L_82) me_X13_thrown mv_X13_thrown ⟨by decide, by decide⟩ rfl rfl rfl (Nat.le_of_ble_eq_true rfl) (P_X13_thrown X x2 h371) (fun v372 h373 => ?_)
      show jv_O X M_L_law _ jeI 431 [some (.ref (jv_ad X 13)), some (.ref (x1)), some (.ref (x2)), some (.ref (x3)), some (.int (x4)), some (.int (v366)), some (.int (v370))] [.int (v372)] h373 _
      refine jv_iload (jv_dk t_L_law (k := 188) rfl) rfl ?_
      refine jv_icmp_eq (tgt := 438) (jv_dk t_L_law (k := 189) rfl) rfl (fun c374 => ?_) (fun c374 => ?_)
      · refine jv_iload (jv_dk t_L_law (k := 192) rfl) rfl ?_
        refine jv_if_ne (tgt := 455) (jv_dk t_L_law (k := 193) rfl) rfl (fun c375 => ?_) (fun c375 => ?_)
        · refine jv_goto (tgt := 1929) (jv_dk t_L_law (k := 203) rfl) rfl ?_
          refine jv_iinc (v := 6) (L' := [some (.ref (jv_ad X 13)), some (.ref (x1)), some (.ref (x2)), some (.ref (x3)), some (.int (x4 + 6)), some (.int (v366)), some (.int (v370))]) (jv_dk t_L_law (k := 1203) rfl) rfl (by decide) rfl ?_
          refine jv_goto (tgt := 23) (jv_dk t_L_law (k := 1204) rfl) rfl ?_
          refine jv_le_row (jv_le_s (jv_le_s (jv_le_s (jv_le_s (jv_le_s (jv_le_n (jv_le_n (jv_le_nil)))))))) ?_
          exact hR23 _ _ _ _ _ 
        · show jv_O _ _ _ _ 443 _ _ _ _
          refine jv_aload_n (jv_dk t_L_law (k := 194) rfl) rfl rfl (Or.inr ⟨_, rfl⟩) ?_
          refine jv_iconst (v := 0) (jv_dk t_L_law (k := 195) rfl) (by decide) ?_
          refine jv_laload (jv_dk t_L_law (k := 196) rfl) (fun v376 => ?_)
          refine jv_iload (jv_dk t_L_law (k := 197) rfl) rfl ?_
          refine jv_i2l (jv_dk t_L_law (k := 198) rfl) ?_
          refine jv_lcmp (jv_dk t_L_law (k := 199) rfl) ?_
          refine jv_if_eq (tgt := 455) (jv_dk t_L_law (k := 200) rfl) rfl (fun c377 => ?_) (fun c377 => ?_)
          · refine jv_goto (tgt := 1929) (jv_dk t_L_law (k := 203) rfl) rfl ?_
            refine jv_iinc (v := 6) (L' := [some (.ref (jv_ad X 13)), some (.ref (x1)), some (.ref (x2)), some (.ref (x3)), some (.int (x4 + 6)), some (.int (v366)), some (.int (v370))]) (jv_dk t_L_law (k := 1203) rfl) rfl (by decide) rfl ?_
            refine jv_goto (tgt := 23) (jv_dk t_L_law (k := 1204) rfl) rfl ?_
            refine jv_le_row (jv_le_s (jv_le_s (jv_le_s (jv_le_s (jv_le_s (jv_le_n (jv_le_n (jv_le_nil)))))))) ?_
            exact hR23 _ _ _ _ _ 
          · show jv_O _ _ _ _ 453 _ _ _ _
            refine jv_iconst (v := 0) (jv_dk t_L_law (k := 201) rfl) (by decide) ?_
            exact jv_iret (ty := .boolean) (jv_dk t_L_law (k := 202) rfl) rfl rfl rfl
      · show jv_O _ _ _ _ 436 _ _ _ _
        refine jv_iconst (v := 0) (jv_dk t_L_law (k := 190) rfl) (by decide) ?_
        exact jv_iret (ty := .boolean) (jv_dk t_L_law (k := 191) rfl) rfl rfl rfl
    rw [if_neg c15]
    by_cases c16 : (v10 &&& 63) = 5
    · rw [if_pos c16]
      refine jv_tbl (tgt := 458) (jv_dk t_L_law (k := 24) rfl) (by rw [c16] <;> decide) (by rw [c16] <;> decide) (by rw [c16] <;> rfl) rfl ?_
      refine jv_aload_n (jv_dk t_L_law (k := 204) rfl) rfl rfl (Or.inr ⟨_, rfl⟩) ?_
      refine jv_aload_n (jv_dk t_L_law (k := 205) rfl) rfl rfl (Or.inr ⟨_, rfl⟩) ?_
      refine jv_iload (jv_dk t_L_law (k := 206) rfl) rfl ?_
      refine jv_iconst (v := 1) (jv_dk t_L_law (k := 207) rfl) (by decide) ?_
      refine jv_iadd (jv_dk t_L_law (k := 208) rfl) ?_
      refine jv_xI (jv_dk t_L_law (k := 209) rfl) (fun v348 => ?_)
      refine jv_aload_n (jv_dk t_L_law (k := 210) rfl) rfl rfl (Or.inr ⟨_, rfl⟩) ?_
      refine jv_iload (jv_dk t_L_law (k := 211) rfl) rfl ?_
      refine jv_iconst (v := 2) (jv_dk t_L_law (k := 212) rfl) (by decide) ?_
      refine jv_iadd (jv_dk t_L_law (k := 213) rfl) ?_
      refine jv_xI (jv_dk t_L_law (k := 214) rfl) (fun v349 => ?_)
      refine jv_aload_n (jv_dk t_L_law (k := 215) rfl) rfl rfl (Or.inr ⟨_, rfl⟩) ?_
      refine jv_iload (jv_dk t_L_law (k := 216) rfl) rfl ?_
      refine jv_iconst (v := 3) (jv_dk t_L_law (k := 217) rfl) (by decide) ?_
      refine jv_iadd (jv_dk t_L_law (k := 218) rfl) ?_
      refine jv_xI (jv_dk t_L_law (k := 219) rfl) (fun v350 => ?_)
      refine jv_aload_n (jv_dk t_L_law (k := 220) rfl) rfl rfl (Or.inr ⟨_, rfl⟩) ?_
      refine jv_callH (en' := jeI) (pv := jpI) (As := [.ref (x1), .int (v348), .int (v349), .int (v350), .ref (x3)]) (S := []) (jv_dk t_L_law (k := 221) rfl) (fun _ => rfl) lk_L_97 me_L_space ms_L_space ⟨by decide, by decide⟩ rfl rfl (Nat.le_of_ble_eq_true rfl) (P_L_space X x1 v348 v349 v350 x3 h) (fun v351 h352 => ?_)
      show jv_O X M_L_law _ jeI 481 [some (.ref (jv_ad X 13)), some (.ref (x1)), some (.ref (x2)), some (.ref (x3)), some (.int (x4)), none, none] [.int (v351)] h352 _
      refine jv_istore (L' := [some (.ref (jv_ad X 13)), some (.ref (x1)), some (.ref (x2)), some (.ref (x3)), some (.int (x4)), some (.int (v351)), none]) (jv_dk t_L_law (k := 222) rfl) (Nat.le_of_ble_eq_true rfl) rfl ?_
      refine jv_aload_n (jv_dk t_L_law (k := 223) rfl) rfl rfl (Or.inr ⟨_, rfl⟩) ?_
      refine jv_aload_n (jv_dk t_L_law (k := 224) rfl) rfl rfl (Or.inr ⟨_, rfl⟩) ?_
      refine jv_iload (jv_dk t_L_law (k := 225) rfl) rfl ?_
      refine jv_iconst (v := 1) (jv_dk t_L_law (k := 226) rfl) (by decide) ?_
      refine jv_iadd (jv_dk t_L_law (k := 227) rfl) ?_
      refine jv_xI (jv_dk t_L_law (k := 228) rfl) (fun v353 => ?_)
      refine jv_aload_n (jv_dk t_L_law (k := 229) rfl) rfl rfl (Or.inr ⟨_, rfl⟩) ?_
      refine jv_iload (jv_dk t_L_law (k := 230) rfl) rfl ?_
      refine jv_iconst (v := 2) (jv_dk t_L_law (k := 231) rfl) (by decide) ?_
      refine jv_iadd (jv_dk t_L_law (k := 232) rfl) ?_
      refine jv_xI (jv_dk t_L_law (k := 233) rfl) (fun v354 => ?_)
      refine jv_aload_n (jv_dk t_L_law (k := 234) rfl) rfl rfl (Or.inr ⟨_, rfl⟩) ?_
      refine jv_iload (jv_dk t_L_law (k := 235) rfl) rfl ?_
      refine jv_iconst (v := 3) (jv_dk t_L_law (k := 236) rfl) (by decide) ?_
      refine jv_iadd (jv_dk t_L_law (k := 237) rfl) ?_
      refine jv_xI (jv_dk t_L_law (k := 238) rfl) (fun v355 => ?_)
      refine jv_callV (en' := jeI) (pv := jpI) (As := [.int (v353), .int (v354), .int (v355)]) (S := []) (jv_dk t_L_law (k := 239) rfl) (fun _ => rfl) (Or.inl lk_L_100) me_X13_space mv_X13_space ⟨by decide, by decide⟩ rfl rfl rfl (Nat.le_of_ble_eq_true rfl) (P_X13_space X x2 v353 v354 v355 h352) (fun v356 h357 => ?_)
      show jv_O X M_L_law _ jeI 505 [some (.ref (jv_ad X 13)), some (.ref (x1)), some (.ref (x2)), some (.ref (x3)), some (.int (x4)), some (.int (v351)), none] [.int (v356)] h357 _
      refine jv_istore (L' := [some (.ref (jv_ad X 13)), some (.ref (x1)), some (.ref (x2)), some (.ref (x3)), some (.int (x4)), some (.int (v351)), some (.int (v356))]) (jv_dk t_L_law (k := 240) rfl) (Nat.le_of_ble_eq_true rfl) rfl ?_
      refine jv_aload_n (jv_dk t_L_law (k := 241) rfl) rfl rfl (Or.inr ⟨_, rfl⟩) ?_
      refine jv_callV (en' := jeI) (pv := jpI) (As := []) (S := []) (jv_dk t_L_law (k := 242) rfl) (fun _ => rfl) (Or.inl lk_L_82) me_X13_thrown mv_X13_thrown ⟨by decide, by decide⟩ rfl rfl rfl (Nat.le_of_ble_eq_true rfl) (P_X13_thrown X x2 h357) (fun v358 h359 => ?_)
      show jv_O X M_L_law _ jeI 511 [some (.ref (jv_ad X 13)), some (.ref (x1)), some (.ref (x2)), some (.ref (x3)), some (.int (x4)), some (.int (v351)), some (.int (v356))] [.int (v358)] h359 _
      refine jv_iload (jv_dk t_L_law (k := 243) rfl) rfl ?_
      refine jv_icmp_eq (tgt := 518) (jv_dk t_L_law (k := 244) rfl) rfl (fun c360 => ?_) (fun c360 => ?_)
      · refine jv_iload (jv_dk t_L_law (k := 247) rfl) rfl ?_
        refine jv_if_ne (tgt := 535) (jv_dk t_L_law (k := 248) rfl) rfl (fun c361 => ?_) (fun c361 => ?_)
        · refine jv_goto (tgt := 1929) (jv_dk t_L_law (k := 258) rfl) rfl ?_
          refine jv_iinc (v := 6) (L' := [some (.ref (jv_ad X 13)), some (.ref (x1)), some (.ref (x2)), some (.ref (x3)), some (.int (x4 + 6)), some (.int (v351)), some (.int (v356))]) (jv_dk t_L_law (k := 1203) rfl) rfl (by decide) rfl ?_
          refine jv_goto (tgt := 23) (jv_dk t_L_law (k := 1204) rfl) rfl ?_
          refine jv_le_row (jv_le_s (jv_le_s (jv_le_s (jv_le_s (jv_le_s (jv_le_n (jv_le_n (jv_le_nil)))))))) ?_
          exact hR23 _ _ _ _ _ 
        · show jv_O _ _ _ _ 523 _ _ _ _
          refine jv_aload_n (jv_dk t_L_law (k := 249) rfl) rfl rfl (Or.inr ⟨_, rfl⟩) ?_
          refine jv_iconst (v := 0) (jv_dk t_L_law (k := 250) rfl) (by decide) ?_
          refine jv_laload (jv_dk t_L_law (k := 251) rfl) (fun v362 => ?_)
          refine jv_iload (jv_dk t_L_law (k := 252) rfl) rfl ?_
          refine jv_i2l (jv_dk t_L_law (k := 253) rfl) ?_
          refine jv_lcmp (jv_dk t_L_law (k := 254) rfl) ?_
          refine jv_if_eq (tgt := 535) (jv_dk t_L_law (k := 255) rfl) rfl (fun c363 => ?_) (fun c363 => ?_)
          · refine jv_goto (tgt := 1929) (jv_dk t_L_law (k := 258) rfl) rfl ?_
            refine jv_iinc (v := 6) (L' := [some (.ref (jv_ad X 13)), some (.ref (x1)), some (.ref (x2)), some (.ref (x3)), some (.int (x4 + 6)), some (.int (v351)), some (.int (v356))]) (jv_dk t_L_law (k := 1203) rfl) rfl (by decide) rfl ?_
            refine jv_goto (tgt := 23) (jv_dk t_L_law (k := 1204) rfl) rfl ?_
            refine jv_le_row (jv_le_s (jv_le_s (jv_le_s (jv_le_s (jv_le_s (jv_le_n (jv_le_n (jv_le_nil)))))))) ?_
            exact hR23 _ _ _ _ _ 
          · show jv_O _ _ _ _ 533 _ _ _ _
            refine jv_iconst (v := 0) (jv_dk t_L_law (k := 256) rfl) (by decide) ?_
            exact jv_iret (ty := .boolean) (jv_dk t_L_law (k := 257) rfl) rfl rfl rfl
      · show jv_O _ _ _ _ 516 _ _ _ _
        refine jv_iconst (v := 0) (jv_dk t_L_law (k := 245) rfl) (by decide) ?_
        exact jv_iret (ty := .boolean) (jv_dk t_L_law (k := 246) rfl) rfl rfl rfl
    rw [if_neg c16]
    by_cases c17 : (v10 &&& 63) = 6
    · rw [if_pos c17]
      refine jv_tbl (tgt := 538) (jv_dk t_L_law (k := 24) rfl) (by rw [c17] <;> decide) (by rw [c17] <;> decide) (by rw [c17] <;> rfl) rfl ?_
      refine jv_aload_n (jv_dk t_L_law (k := 259) rfl) rfl rfl (Or.inr ⟨_, rfl⟩) ?_
      refine jv_aload_n (jv_dk t_L_law (k := 260) rfl) rfl rfl (Or.inr ⟨_, rfl⟩) ?_
      refine jv_iload (jv_dk t_L_law (k := 261) rfl) rfl ?_
      refine jv_iconst (v := 1) (jv_dk t_L_law (k := 262) rfl) (by decide) ?_
      refine jv_iadd (jv_dk t_L_law (k := 263) rfl) ?_
      refine jv_xI (jv_dk t_L_law (k := 264) rfl) (fun v334 => ?_)
      refine jv_aload_n (jv_dk t_L_law (k := 265) rfl) rfl rfl (Or.inr ⟨_, rfl⟩) ?_
      refine jv_iload (jv_dk t_L_law (k := 266) rfl) rfl ?_
      refine jv_iconst (v := 2) (jv_dk t_L_law (k := 267) rfl) (by decide) ?_
      refine jv_iadd (jv_dk t_L_law (k := 268) rfl) ?_
      refine jv_xI (jv_dk t_L_law (k := 269) rfl) (fun v335 => ?_)
      refine jv_aload_n (jv_dk t_L_law (k := 270) rfl) rfl rfl (Or.inr ⟨_, rfl⟩) ?_
      refine jv_callH (en' := jeI) (pv := jpI) (As := [.ref (x1), .int (v334), .int (v335), .ref (x3)]) (S := []) (jv_dk t_L_law (k := 271) rfl) (fun _ => rfl) lk_L_101 me_L_number ms_L_number ⟨by decide, by decide⟩ rfl rfl (Nat.le_of_ble_eq_true rfl) (P_L_number X x1 v334 v335 x3 h) (fun v336 h337 => ?_)
      show jv_O X M_L_law _ jeI 555 [some (.ref (jv_ad X 13)), some (.ref (x1)), some (.ref (x2)), some (.ref (x3)), some (.int (x4)), none, none] [.int (v336)] h337 _
      refine jv_istore (L' := [some (.ref (jv_ad X 13)), some (.ref (x1)), some (.ref (x2)), some (.ref (x3)), some (.int (x4)), some (.int (v336)), none]) (jv_dk t_L_law (k := 272) rfl) (Nat.le_of_ble_eq_true rfl) rfl ?_
      refine jv_aload_n (jv_dk t_L_law (k := 273) rfl) rfl rfl (Or.inr ⟨_, rfl⟩) ?_
      refine jv_aload_n (jv_dk t_L_law (k := 274) rfl) rfl rfl (Or.inr ⟨_, rfl⟩) ?_
      refine jv_iload (jv_dk t_L_law (k := 275) rfl) rfl ?_
      refine jv_iconst (v := 1) (jv_dk t_L_law (k := 276) rfl) (by decide) ?_
      refine jv_iadd (jv_dk t_L_law (k := 277) rfl) ?_
      refine jv_xI (jv_dk t_L_law (k := 278) rfl) (fun v338 => ?_)
      refine jv_aload_n (jv_dk t_L_law (k := 279) rfl) rfl rfl (Or.inr ⟨_, rfl⟩) ?_
      refine jv_iload (jv_dk t_L_law (k := 280) rfl) rfl ?_
      refine jv_iconst (v := 2) (jv_dk t_L_law (k := 281) rfl) (by decide) ?_
      refine jv_iadd (jv_dk t_L_law (k := 282) rfl) ?_
      refine jv_xI (jv_dk t_L_law (k := 283) rfl) (fun v339 => ?_)
      refine jv_callV (en' := jeI) (pv := jpI) (As := [.int (v338), .int (v339)]) (S := []) (jv_dk t_L_law (k := 284) rfl) (fun _ => rfl) (Or.inl lk_L_103) me_X13_number mv_X13_number ⟨by decide, by decide⟩ rfl rfl rfl (Nat.le_of_ble_eq_true rfl) (P_X13_number X x2 v338 v339 h337) (fun v340 h341 => ?_)
      show jv_O X M_L_law _ jeI 573 [some (.ref (jv_ad X 13)), some (.ref (x1)), some (.ref (x2)), some (.ref (x3)), some (.int (x4)), some (.int (v336)), none] [.int (v340)] h341 _
      refine jv_istore (L' := [some (.ref (jv_ad X 13)), some (.ref (x1)), some (.ref (x2)), some (.ref (x3)), some (.int (x4)), some (.int (v336)), some (.int (v340))]) (jv_dk t_L_law (k := 285) rfl) (Nat.le_of_ble_eq_true rfl) rfl ?_
      refine jv_aload_n (jv_dk t_L_law (k := 286) rfl) rfl rfl (Or.inr ⟨_, rfl⟩) ?_
      refine jv_callV (en' := jeI) (pv := jpI) (As := []) (S := []) (jv_dk t_L_law (k := 287) rfl) (fun _ => rfl) (Or.inl lk_L_82) me_X13_thrown mv_X13_thrown ⟨by decide, by decide⟩ rfl rfl rfl (Nat.le_of_ble_eq_true rfl) (P_X13_thrown X x2 h341) (fun v342 h343 => ?_)
      show jv_O X M_L_law _ jeI 579 [some (.ref (jv_ad X 13)), some (.ref (x1)), some (.ref (x2)), some (.ref (x3)), some (.int (x4)), some (.int (v336)), some (.int (v340))] [.int (v342)] h343 _
      refine jv_iload (jv_dk t_L_law (k := 288) rfl) rfl ?_
      refine jv_icmp_eq (tgt := 586) (jv_dk t_L_law (k := 289) rfl) rfl (fun c344 => ?_) (fun c344 => ?_)
      · refine jv_iload (jv_dk t_L_law (k := 292) rfl) rfl ?_
        refine jv_if_ne (tgt := 603) (jv_dk t_L_law (k := 293) rfl) rfl (fun c345 => ?_) (fun c345 => ?_)
        · refine jv_goto (tgt := 1929) (jv_dk t_L_law (k := 303) rfl) rfl ?_
          refine jv_iinc (v := 6) (L' := [some (.ref (jv_ad X 13)), some (.ref (x1)), some (.ref (x2)), some (.ref (x3)), some (.int (x4 + 6)), some (.int (v336)), some (.int (v340))]) (jv_dk t_L_law (k := 1203) rfl) rfl (by decide) rfl ?_
          refine jv_goto (tgt := 23) (jv_dk t_L_law (k := 1204) rfl) rfl ?_
          refine jv_le_row (jv_le_s (jv_le_s (jv_le_s (jv_le_s (jv_le_s (jv_le_n (jv_le_n (jv_le_nil)))))))) ?_
          exact hR23 _ _ _ _ _ 
        · show jv_O _ _ _ _ 591 _ _ _ _
          refine jv_aload_n (jv_dk t_L_law (k := 294) rfl) rfl rfl (Or.inr ⟨_, rfl⟩) ?_
          refine jv_iconst (v := 0) (jv_dk t_L_law (k := 295) rfl) (by decide) ?_
          refine jv_laload (jv_dk t_L_law (k := 296) rfl) (fun v346 => ?_)
          refine jv_iload (jv_dk t_L_law (k := 297) rfl) rfl ?_
          refine jv_i2l (jv_dk t_L_law (k := 298) rfl) ?_
          refine jv_lcmp (jv_dk t_L_law (k := 299) rfl) ?_
          refine jv_if_eq (tgt := 603) (jv_dk t_L_law (k := 300) rfl) rfl (fun c347 => ?_) (fun c347 => ?_)
          · refine jv_goto (tgt := 1929) (jv_dk t_L_law (k := 303) rfl) rfl ?_
            refine jv_iinc (v := 6) (L' := [some (.ref (jv_ad X 13)), some (.ref (x1)), some (.ref (x2)), some (.ref (x3)), some (.int (x4 + 6)), some (.int (v336)), some (.int (v340))]) (jv_dk t_L_law (k := 1203) rfl) rfl (by decide) rfl ?_
            refine jv_goto (tgt := 23) (jv_dk t_L_law (k := 1204) rfl) rfl ?_
            refine jv_le_row (jv_le_s (jv_le_s (jv_le_s (jv_le_s (jv_le_s (jv_le_n (jv_le_n (jv_le_nil)))))))) ?_
            exact hR23 _ _ _ _ _ 
          · show jv_O _ _ _ _ 601 _ _ _ _
            refine jv_iconst (v := 0) (jv_dk t_L_law (k := 301) rfl) (by decide) ?_
            exact jv_iret (ty := .boolean) (jv_dk t_L_law (k := 302) rfl) rfl rfl rfl
      · show jv_O _ _ _ _ 584 _ _ _ _
        refine jv_iconst (v := 0) (jv_dk t_L_law (k := 290) rfl) (by decide) ?_
        exact jv_iret (ty := .boolean) (jv_dk t_L_law (k := 291) rfl) rfl rfl rfl
    rw [if_neg c17]
    by_cases c18 : (v10 &&& 63) = 7
    · rw [if_pos c18]
      refine jv_tbl (tgt := 606) (jv_dk t_L_law (k := 24) rfl) (by rw [c18] <;> decide) (by rw [c18] <;> decide) (by rw [c18] <;> rfl) rfl ?_
      refine jv_aload_n (jv_dk t_L_law (k := 304) rfl) rfl rfl (Or.inr ⟨_, rfl⟩) ?_
      refine jv_aload_n (jv_dk t_L_law (k := 305) rfl) rfl rfl (Or.inr ⟨_, rfl⟩) ?_
      refine jv_iload (jv_dk t_L_law (k := 306) rfl) rfl ?_
      refine jv_iconst (v := 1) (jv_dk t_L_law (k := 307) rfl) (by decide) ?_
      refine jv_iadd (jv_dk t_L_law (k := 308) rfl) ?_
      refine jv_xI (jv_dk t_L_law (k := 309) rfl) (fun v320 => ?_)
      refine jv_aload_n (jv_dk t_L_law (k := 310) rfl) rfl rfl (Or.inr ⟨_, rfl⟩) ?_
      refine jv_iload (jv_dk t_L_law (k := 311) rfl) rfl ?_
      refine jv_iconst (v := 2) (jv_dk t_L_law (k := 312) rfl) (by decide) ?_
      refine jv_iadd (jv_dk t_L_law (k := 313) rfl) ?_
      refine jv_xI (jv_dk t_L_law (k := 314) rfl) (fun v321 => ?_)
      refine jv_aload_n (jv_dk t_L_law (k := 315) rfl) rfl rfl (Or.inr ⟨_, rfl⟩) ?_
      refine jv_callH (en' := jeI) (pv := jpI) (As := [.ref (x1), .int (v320), .int (v321), .ref (x3)]) (S := []) (jv_dk t_L_law (k := 316) rfl) (fun _ => rfl) lk_L_104 me_L_listed ms_L_listed ⟨by decide, by decide⟩ rfl rfl (Nat.le_of_ble_eq_true rfl) (P_L_listed X x1 v320 v321 x3 h) (fun v322 h323 => ?_)
      show jv_O X M_L_law _ jeI 623 [some (.ref (jv_ad X 13)), some (.ref (x1)), some (.ref (x2)), some (.ref (x3)), some (.int (x4)), none, none] [.int (v322)] h323 _
      refine jv_istore (L' := [some (.ref (jv_ad X 13)), some (.ref (x1)), some (.ref (x2)), some (.ref (x3)), some (.int (x4)), some (.int (v322)), none]) (jv_dk t_L_law (k := 317) rfl) (Nat.le_of_ble_eq_true rfl) rfl ?_
      refine jv_aload_n (jv_dk t_L_law (k := 318) rfl) rfl rfl (Or.inr ⟨_, rfl⟩) ?_
      refine jv_aload_n (jv_dk t_L_law (k := 319) rfl) rfl rfl (Or.inr ⟨_, rfl⟩) ?_
      refine jv_iload (jv_dk t_L_law (k := 320) rfl) rfl ?_
      refine jv_iconst (v := 1) (jv_dk t_L_law (k := 321) rfl) (by decide) ?_
      refine jv_iadd (jv_dk t_L_law (k := 322) rfl) ?_
      refine jv_xI (jv_dk t_L_law (k := 323) rfl) (fun v324 => ?_)
      refine jv_aload_n (jv_dk t_L_law (k := 324) rfl) rfl rfl (Or.inr ⟨_, rfl⟩) ?_
      refine jv_iload (jv_dk t_L_law (k := 325) rfl) rfl ?_
      refine jv_iconst (v := 2) (jv_dk t_L_law (k := 326) rfl) (by decide) ?_
      refine jv_iadd (jv_dk t_L_law (k := 327) rfl) ?_
      refine jv_xI (jv_dk t_L_law (k := 328) rfl) (fun v325 => ?_)
      refine jv_callV (en' := jeI) (pv := jpI) (As := [.int (v324), .int (v325)]) (S := []) (jv_dk t_L_law (k := 329) rfl) (fun _ => rfl) (Or.inl lk_L_106) me_X13_listed mv_X13_listed ⟨by decide, by decide⟩ rfl rfl rfl (Nat.le_of_ble_eq_true rfl) (P_X13_listed X x2 v324 v325 h323) (fun v326 h327 => ?_)
      show jv_O X M_L_law _ jeI 641 [some (.ref (jv_ad X 13)), some (.ref (x1)), some (.ref (x2)), some (.ref (x3)), some (.int (x4)), some (.int (v322)), none] [.int (v326)] h327 _
      refine jv_istore (L' := [some (.ref (jv_ad X 13)), some (.ref (x1)), some (.ref (x2)), some (.ref (x3)), some (.int (x4)), some (.int (v322)), some (.int (v326))]) (jv_dk t_L_law (k := 330) rfl) (Nat.le_of_ble_eq_true rfl) rfl ?_
      refine jv_aload_n (jv_dk t_L_law (k := 331) rfl) rfl rfl (Or.inr ⟨_, rfl⟩) ?_
      refine jv_callV (en' := jeI) (pv := jpI) (As := []) (S := []) (jv_dk t_L_law (k := 332) rfl) (fun _ => rfl) (Or.inl lk_L_82) me_X13_thrown mv_X13_thrown ⟨by decide, by decide⟩ rfl rfl rfl (Nat.le_of_ble_eq_true rfl) (P_X13_thrown X x2 h327) (fun v328 h329 => ?_)
      show jv_O X M_L_law _ jeI 647 [some (.ref (jv_ad X 13)), some (.ref (x1)), some (.ref (x2)), some (.ref (x3)), some (.int (x4)), some (.int (v322)), some (.int (v326))] [.int (v328)] h329 _
      refine jv_iload (jv_dk t_L_law (k := 333) rfl) rfl ?_
      refine jv_icmp_eq (tgt := 654) (jv_dk t_L_law (k := 334) rfl) rfl (fun c330 => ?_) (fun c330 => ?_)
      · refine jv_iload (jv_dk t_L_law (k := 337) rfl) rfl ?_
        refine jv_if_ne (tgt := 671) (jv_dk t_L_law (k := 338) rfl) rfl (fun c331 => ?_) (fun c331 => ?_)
        · refine jv_goto (tgt := 1929) (jv_dk t_L_law (k := 348) rfl) rfl ?_
          refine jv_iinc (v := 6) (L' := [some (.ref (jv_ad X 13)), some (.ref (x1)), some (.ref (x2)), some (.ref (x3)), some (.int (x4 + 6)), some (.int (v322)), some (.int (v326))]) (jv_dk t_L_law (k := 1203) rfl) rfl (by decide) rfl ?_
          refine jv_goto (tgt := 23) (jv_dk t_L_law (k := 1204) rfl) rfl ?_
          refine jv_le_row (jv_le_s (jv_le_s (jv_le_s (jv_le_s (jv_le_s (jv_le_n (jv_le_n (jv_le_nil)))))))) ?_
          exact hR23 _ _ _ _ _ 
        · show jv_O _ _ _ _ 659 _ _ _ _
          refine jv_aload_n (jv_dk t_L_law (k := 339) rfl) rfl rfl (Or.inr ⟨_, rfl⟩) ?_
          refine jv_iconst (v := 0) (jv_dk t_L_law (k := 340) rfl) (by decide) ?_
          refine jv_laload (jv_dk t_L_law (k := 341) rfl) (fun v332 => ?_)
          refine jv_iload (jv_dk t_L_law (k := 342) rfl) rfl ?_
          refine jv_i2l (jv_dk t_L_law (k := 343) rfl) ?_
          refine jv_lcmp (jv_dk t_L_law (k := 344) rfl) ?_
          refine jv_if_eq (tgt := 671) (jv_dk t_L_law (k := 345) rfl) rfl (fun c333 => ?_) (fun c333 => ?_)
          · refine jv_goto (tgt := 1929) (jv_dk t_L_law (k := 348) rfl) rfl ?_
            refine jv_iinc (v := 6) (L' := [some (.ref (jv_ad X 13)), some (.ref (x1)), some (.ref (x2)), some (.ref (x3)), some (.int (x4 + 6)), some (.int (v322)), some (.int (v326))]) (jv_dk t_L_law (k := 1203) rfl) rfl (by decide) rfl ?_
            refine jv_goto (tgt := 23) (jv_dk t_L_law (k := 1204) rfl) rfl ?_
            refine jv_le_row (jv_le_s (jv_le_s (jv_le_s (jv_le_s (jv_le_s (jv_le_n (jv_le_n (jv_le_nil)))))))) ?_
            exact hR23 _ _ _ _ _ 
          · show jv_O _ _ _ _ 669 _ _ _ _
            refine jv_iconst (v := 0) (jv_dk t_L_law (k := 346) rfl) (by decide) ?_
            exact jv_iret (ty := .boolean) (jv_dk t_L_law (k := 347) rfl) rfl rfl rfl
      · show jv_O _ _ _ _ 652 _ _ _ _
        refine jv_iconst (v := 0) (jv_dk t_L_law (k := 335) rfl) (by decide) ?_
        exact jv_iret (ty := .boolean) (jv_dk t_L_law (k := 336) rfl) rfl rfl rfl
    rw [if_neg c18]
    by_cases c19 : (v10 &&& 63) = 8
    · rw [if_pos c19]
      refine jv_tbl (tgt := 674) (jv_dk t_L_law (k := 24) rfl) (by rw [c19] <;> decide) (by rw [c19] <;> decide) (by rw [c19] <;> rfl) rfl ?_
      refine jv_aload_n (jv_dk t_L_law (k := 349) rfl) rfl rfl (Or.inr ⟨_, rfl⟩) ?_
      refine jv_aload_n (jv_dk t_L_law (k := 350) rfl) rfl rfl (Or.inr ⟨_, rfl⟩) ?_
      refine jv_iload (jv_dk t_L_law (k := 351) rfl) rfl ?_
      refine jv_iconst (v := 1) (jv_dk t_L_law (k := 352) rfl) (by decide) ?_
      refine jv_iadd (jv_dk t_L_law (k := 353) rfl) ?_
      refine jv_xI (jv_dk t_L_law (k := 354) rfl) (fun v306 => ?_)
      refine jv_aload_n (jv_dk t_L_law (k := 355) rfl) rfl rfl (Or.inr ⟨_, rfl⟩) ?_
      refine jv_iload (jv_dk t_L_law (k := 356) rfl) rfl ?_
      refine jv_iconst (v := 2) (jv_dk t_L_law (k := 357) rfl) (by decide) ?_
      refine jv_iadd (jv_dk t_L_law (k := 358) rfl) ?_
      refine jv_xI (jv_dk t_L_law (k := 359) rfl) (fun v307 => ?_)
      refine jv_aload_n (jv_dk t_L_law (k := 360) rfl) rfl rfl (Or.inr ⟨_, rfl⟩) ?_
      refine jv_callH (en' := jeI) (pv := jpI) (As := [.ref (x1), .int (v306), .int (v307), .ref (x3)]) (S := []) (jv_dk t_L_law (k := 361) rfl) (fun _ => rfl) lk_L_107 me_L_inside ms_L_inside ⟨by decide, by decide⟩ rfl rfl (Nat.le_of_ble_eq_true rfl) (P_L_inside X x1 v306 v307 x3 h) (fun v308 h309 => ?_)
      show jv_O X M_L_law _ jeI 691 [some (.ref (jv_ad X 13)), some (.ref (x1)), some (.ref (x2)), some (.ref (x3)), some (.int (x4)), none, none] [.int (v308)] h309 _
      refine jv_istore (L' := [some (.ref (jv_ad X 13)), some (.ref (x1)), some (.ref (x2)), some (.ref (x3)), some (.int (x4)), some (.int (v308)), none]) (jv_dk t_L_law (k := 362) rfl) (Nat.le_of_ble_eq_true rfl) rfl ?_
      refine jv_aload_n (jv_dk t_L_law (k := 363) rfl) rfl rfl (Or.inr ⟨_, rfl⟩) ?_
      refine jv_aload_n (jv_dk t_L_law (k := 364) rfl) rfl rfl (Or.inr ⟨_, rfl⟩) ?_
      refine jv_iload (jv_dk t_L_law (k := 365) rfl) rfl ?_
      refine jv_iconst (v := 1) (jv_dk t_L_law (k := 366) rfl) (by decide) ?_
      refine jv_iadd (jv_dk t_L_law (k := 367) rfl) ?_
      refine jv_xI (jv_dk t_L_law (k := 368) rfl) (fun v310 => ?_)
      refine jv_aload_n (jv_dk t_L_law (k := 369) rfl) rfl rfl (Or.inr ⟨_, rfl⟩) ?_
      refine jv_iload (jv_dk t_L_law (k := 370) rfl) rfl ?_
      refine jv_iconst (v := 2) (jv_dk t_L_law (k := 371) rfl) (by decide) ?_
      refine jv_iadd (jv_dk t_L_law (k := 372) rfl) ?_
      refine jv_xI (jv_dk t_L_law (k := 373) rfl) (fun v311 => ?_)
      refine jv_callV (en' := jeI) (pv := jpI) (As := [.int (v310), .int (v311)]) (S := []) (jv_dk t_L_law (k := 374) rfl) (fun _ => rfl) (Or.inl lk_L_109) me_X13_inside mv_X13_inside ⟨by decide, by decide⟩ rfl rfl rfl (Nat.le_of_ble_eq_true rfl) (P_X13_inside X x2 v310 v311 h309) (fun v312 h313 => ?_)
      show jv_O X M_L_law _ jeI 709 [some (.ref (jv_ad X 13)), some (.ref (x1)), some (.ref (x2)), some (.ref (x3)), some (.int (x4)), some (.int (v308)), none] [.int (v312)] h313 _
      refine jv_istore (L' := [some (.ref (jv_ad X 13)), some (.ref (x1)), some (.ref (x2)), some (.ref (x3)), some (.int (x4)), some (.int (v308)), some (.int (v312))]) (jv_dk t_L_law (k := 375) rfl) (Nat.le_of_ble_eq_true rfl) rfl ?_
      refine jv_aload_n (jv_dk t_L_law (k := 376) rfl) rfl rfl (Or.inr ⟨_, rfl⟩) ?_
      refine jv_callV (en' := jeI) (pv := jpI) (As := []) (S := []) (jv_dk t_L_law (k := 377) rfl) (fun _ => rfl) (Or.inl lk_L_82) me_X13_thrown mv_X13_thrown ⟨by decide, by decide⟩ rfl rfl rfl (Nat.le_of_ble_eq_true rfl) (P_X13_thrown X x2 h313) (fun v314 h315 => ?_)
      show jv_O X M_L_law _ jeI 715 [some (.ref (jv_ad X 13)), some (.ref (x1)), some (.ref (x2)), some (.ref (x3)), some (.int (x4)), some (.int (v308)), some (.int (v312))] [.int (v314)] h315 _
      refine jv_iload (jv_dk t_L_law (k := 378) rfl) rfl ?_
      refine jv_icmp_eq (tgt := 722) (jv_dk t_L_law (k := 379) rfl) rfl (fun c316 => ?_) (fun c316 => ?_)
      · refine jv_iload (jv_dk t_L_law (k := 382) rfl) rfl ?_
        refine jv_if_ne (tgt := 739) (jv_dk t_L_law (k := 383) rfl) rfl (fun c317 => ?_) (fun c317 => ?_)
        · refine jv_goto (tgt := 1929) (jv_dk t_L_law (k := 393) rfl) rfl ?_
          refine jv_iinc (v := 6) (L' := [some (.ref (jv_ad X 13)), some (.ref (x1)), some (.ref (x2)), some (.ref (x3)), some (.int (x4 + 6)), some (.int (v308)), some (.int (v312))]) (jv_dk t_L_law (k := 1203) rfl) rfl (by decide) rfl ?_
          refine jv_goto (tgt := 23) (jv_dk t_L_law (k := 1204) rfl) rfl ?_
          refine jv_le_row (jv_le_s (jv_le_s (jv_le_s (jv_le_s (jv_le_s (jv_le_n (jv_le_n (jv_le_nil)))))))) ?_
          exact hR23 _ _ _ _ _ 
        · show jv_O _ _ _ _ 727 _ _ _ _
          refine jv_aload_n (jv_dk t_L_law (k := 384) rfl) rfl rfl (Or.inr ⟨_, rfl⟩) ?_
          refine jv_iconst (v := 0) (jv_dk t_L_law (k := 385) rfl) (by decide) ?_
          refine jv_laload (jv_dk t_L_law (k := 386) rfl) (fun v318 => ?_)
          refine jv_iload (jv_dk t_L_law (k := 387) rfl) rfl ?_
          refine jv_i2l (jv_dk t_L_law (k := 388) rfl) ?_
          refine jv_lcmp (jv_dk t_L_law (k := 389) rfl) ?_
          refine jv_if_eq (tgt := 739) (jv_dk t_L_law (k := 390) rfl) rfl (fun c319 => ?_) (fun c319 => ?_)
          · refine jv_goto (tgt := 1929) (jv_dk t_L_law (k := 393) rfl) rfl ?_
            refine jv_iinc (v := 6) (L' := [some (.ref (jv_ad X 13)), some (.ref (x1)), some (.ref (x2)), some (.ref (x3)), some (.int (x4 + 6)), some (.int (v308)), some (.int (v312))]) (jv_dk t_L_law (k := 1203) rfl) rfl (by decide) rfl ?_
            refine jv_goto (tgt := 23) (jv_dk t_L_law (k := 1204) rfl) rfl ?_
            refine jv_le_row (jv_le_s (jv_le_s (jv_le_s (jv_le_s (jv_le_s (jv_le_n (jv_le_n (jv_le_nil)))))))) ?_
            exact hR23 _ _ _ _ _ 
          · show jv_O _ _ _ _ 737 _ _ _ _
            refine jv_iconst (v := 0) (jv_dk t_L_law (k := 391) rfl) (by decide) ?_
            exact jv_iret (ty := .boolean) (jv_dk t_L_law (k := 392) rfl) rfl rfl rfl
      · show jv_O _ _ _ _ 720 _ _ _ _
        refine jv_iconst (v := 0) (jv_dk t_L_law (k := 380) rfl) (by decide) ?_
        exact jv_iret (ty := .boolean) (jv_dk t_L_law (k := 381) rfl) rfl rfl rfl
    rw [if_neg c19]
    by_cases c20 : (v10 &&& 63) = 9
    · rw [if_pos c20]
      refine jv_tbl (tgt := 742) (jv_dk t_L_law (k := 24) rfl) (by rw [c20] <;> decide) (by rw [c20] <;> decide) (by rw [c20] <;> rfl) rfl ?_
      refine jv_aload_n (jv_dk t_L_law (k := 394) rfl) rfl rfl (Or.inr ⟨_, rfl⟩) ?_
      refine jv_aload_n (jv_dk t_L_law (k := 395) rfl) rfl rfl (Or.inr ⟨_, rfl⟩) ?_
      refine jv_iload (jv_dk t_L_law (k := 396) rfl) rfl ?_
      refine jv_iconst (v := 1) (jv_dk t_L_law (k := 397) rfl) (by decide) ?_
      refine jv_iadd (jv_dk t_L_law (k := 398) rfl) ?_
      refine jv_xI (jv_dk t_L_law (k := 399) rfl) (fun v292 => ?_)
      refine jv_aload_n (jv_dk t_L_law (k := 400) rfl) rfl rfl (Or.inr ⟨_, rfl⟩) ?_
      refine jv_iload (jv_dk t_L_law (k := 401) rfl) rfl ?_
      refine jv_iconst (v := 2) (jv_dk t_L_law (k := 402) rfl) (by decide) ?_
      refine jv_iadd (jv_dk t_L_law (k := 403) rfl) ?_
      refine jv_xI (jv_dk t_L_law (k := 404) rfl) (fun v293 => ?_)
      refine jv_aload_n (jv_dk t_L_law (k := 405) rfl) rfl rfl (Or.inr ⟨_, rfl⟩) ?_
      refine jv_callH (en' := jeI) (pv := jpI) (As := [.ref (x1), .int (v292), .int (v293), .ref (x3)]) (S := []) (jv_dk t_L_law (k := 406) rfl) (fun _ => rfl) lk_L_110 me_L_outside ms_L_outside ⟨by decide, by decide⟩ rfl rfl (Nat.le_of_ble_eq_true rfl) (P_L_outside X x1 v292 v293 x3 h) (fun v294 h295 => ?_)
      show jv_O X M_L_law _ jeI 759 [some (.ref (jv_ad X 13)), some (.ref (x1)), some (.ref (x2)), some (.ref (x3)), some (.int (x4)), none, none] [.int (v294)] h295 _
      refine jv_istore (L' := [some (.ref (jv_ad X 13)), some (.ref (x1)), some (.ref (x2)), some (.ref (x3)), some (.int (x4)), some (.int (v294)), none]) (jv_dk t_L_law (k := 407) rfl) (Nat.le_of_ble_eq_true rfl) rfl ?_
      refine jv_aload_n (jv_dk t_L_law (k := 408) rfl) rfl rfl (Or.inr ⟨_, rfl⟩) ?_
      refine jv_aload_n (jv_dk t_L_law (k := 409) rfl) rfl rfl (Or.inr ⟨_, rfl⟩) ?_
      refine jv_iload (jv_dk t_L_law (k := 410) rfl) rfl ?_
      refine jv_iconst (v := 1) (jv_dk t_L_law (k := 411) rfl) (by decide) ?_
      refine jv_iadd (jv_dk t_L_law (k := 412) rfl) ?_
      refine jv_xI (jv_dk t_L_law (k := 413) rfl) (fun v296 => ?_)
      refine jv_aload_n (jv_dk t_L_law (k := 414) rfl) rfl rfl (Or.inr ⟨_, rfl⟩) ?_
      refine jv_iload (jv_dk t_L_law (k := 415) rfl) rfl ?_
      refine jv_iconst (v := 2) (jv_dk t_L_law (k := 416) rfl) (by decide) ?_
      refine jv_iadd (jv_dk t_L_law (k := 417) rfl) ?_
      refine jv_xI (jv_dk t_L_law (k := 418) rfl) (fun v297 => ?_)
      refine jv_callV (en' := jeI) (pv := jpI) (As := [.int (v296), .int (v297)]) (S := []) (jv_dk t_L_law (k := 419) rfl) (fun _ => rfl) (Or.inl lk_L_112) me_X13_outside mv_X13_outside ⟨by decide, by decide⟩ rfl rfl rfl (Nat.le_of_ble_eq_true rfl) (P_X13_outside X x2 v296 v297 h295) (fun v298 h299 => ?_)
      show jv_O X M_L_law _ jeI 777 [some (.ref (jv_ad X 13)), some (.ref (x1)), some (.ref (x2)), some (.ref (x3)), some (.int (x4)), some (.int (v294)), none] [.int (v298)] h299 _
      refine jv_istore (L' := [some (.ref (jv_ad X 13)), some (.ref (x1)), some (.ref (x2)), some (.ref (x3)), some (.int (x4)), some (.int (v294)), some (.int (v298))]) (jv_dk t_L_law (k := 420) rfl) (Nat.le_of_ble_eq_true rfl) rfl ?_
      refine jv_aload_n (jv_dk t_L_law (k := 421) rfl) rfl rfl (Or.inr ⟨_, rfl⟩) ?_
      refine jv_callV (en' := jeI) (pv := jpI) (As := []) (S := []) (jv_dk t_L_law (k := 422) rfl) (fun _ => rfl) (Or.inl lk_L_82) me_X13_thrown mv_X13_thrown ⟨by decide, by decide⟩ rfl rfl rfl (Nat.le_of_ble_eq_true rfl) (P_X13_thrown X x2 h299) (fun v300 h301 => ?_)
      show jv_O X M_L_law _ jeI 783 [some (.ref (jv_ad X 13)), some (.ref (x1)), some (.ref (x2)), some (.ref (x3)), some (.int (x4)), some (.int (v294)), some (.int (v298))] [.int (v300)] h301 _
      refine jv_iload (jv_dk t_L_law (k := 423) rfl) rfl ?_
      refine jv_icmp_eq (tgt := 790) (jv_dk t_L_law (k := 424) rfl) rfl (fun c302 => ?_) (fun c302 => ?_)
      · refine jv_iload (jv_dk t_L_law (k := 427) rfl) rfl ?_
        refine jv_if_ne (tgt := 807) (jv_dk t_L_law (k := 428) rfl) rfl (fun c303 => ?_) (fun c303 => ?_)
        · refine jv_goto (tgt := 1929) (jv_dk t_L_law (k := 438) rfl) rfl ?_
          refine jv_iinc (v := 6) (L' := [some (.ref (jv_ad X 13)), some (.ref (x1)), some (.ref (x2)), some (.ref (x3)), some (.int (x4 + 6)), some (.int (v294)), some (.int (v298))]) (jv_dk t_L_law (k := 1203) rfl) rfl (by decide) rfl ?_
          refine jv_goto (tgt := 23) (jv_dk t_L_law (k := 1204) rfl) rfl ?_
          refine jv_le_row (jv_le_s (jv_le_s (jv_le_s (jv_le_s (jv_le_s (jv_le_n (jv_le_n (jv_le_nil)))))))) ?_
          exact hR23 _ _ _ _ _ 
        · show jv_O _ _ _ _ 795 _ _ _ _
          refine jv_aload_n (jv_dk t_L_law (k := 429) rfl) rfl rfl (Or.inr ⟨_, rfl⟩) ?_
          refine jv_iconst (v := 0) (jv_dk t_L_law (k := 430) rfl) (by decide) ?_
          refine jv_laload (jv_dk t_L_law (k := 431) rfl) (fun v304 => ?_)
          refine jv_iload (jv_dk t_L_law (k := 432) rfl) rfl ?_
          refine jv_i2l (jv_dk t_L_law (k := 433) rfl) ?_
          refine jv_lcmp (jv_dk t_L_law (k := 434) rfl) ?_
          refine jv_if_eq (tgt := 807) (jv_dk t_L_law (k := 435) rfl) rfl (fun c305 => ?_) (fun c305 => ?_)
          · refine jv_goto (tgt := 1929) (jv_dk t_L_law (k := 438) rfl) rfl ?_
            refine jv_iinc (v := 6) (L' := [some (.ref (jv_ad X 13)), some (.ref (x1)), some (.ref (x2)), some (.ref (x3)), some (.int (x4 + 6)), some (.int (v294)), some (.int (v298))]) (jv_dk t_L_law (k := 1203) rfl) rfl (by decide) rfl ?_
            refine jv_goto (tgt := 23) (jv_dk t_L_law (k := 1204) rfl) rfl ?_
            refine jv_le_row (jv_le_s (jv_le_s (jv_le_s (jv_le_s (jv_le_s (jv_le_n (jv_le_n (jv_le_nil)))))))) ?_
            exact hR23 _ _ _ _ _ 
          · show jv_O _ _ _ _ 805 _ _ _ _
            refine jv_iconst (v := 0) (jv_dk t_L_law (k := 436) rfl) (by decide) ?_
            exact jv_iret (ty := .boolean) (jv_dk t_L_law (k := 437) rfl) rfl rfl rfl
      · show jv_O _ _ _ _ 788 _ _ _ _
        refine jv_iconst (v := 0) (jv_dk t_L_law (k := 425) rfl) (by decide) ?_
        exact jv_iret (ty := .boolean) (jv_dk t_L_law (k := 426) rfl) rfl rfl rfl
    rw [if_neg c20]
    by_cases c21 : (v10 &&& 63) = 10
    · rw [if_pos c21]
      refine jv_tbl (tgt := 810) (jv_dk t_L_law (k := 24) rfl) (by rw [c21] <;> decide) (by rw [c21] <;> decide) (by rw [c21] <;> rfl) rfl ?_
      refine jv_aload_n (jv_dk t_L_law (k := 439) rfl) rfl rfl (Or.inr ⟨_, rfl⟩) ?_
      refine jv_aload_n (jv_dk t_L_law (k := 440) rfl) rfl rfl (Or.inr ⟨_, rfl⟩) ?_
      refine jv_iload (jv_dk t_L_law (k := 441) rfl) rfl ?_
      refine jv_iconst (v := 1) (jv_dk t_L_law (k := 442) rfl) (by decide) ?_
      refine jv_iadd (jv_dk t_L_law (k := 443) rfl) ?_
      refine jv_xI (jv_dk t_L_law (k := 444) rfl) (fun v276 => ?_)
      refine jv_aload_n (jv_dk t_L_law (k := 445) rfl) rfl rfl (Or.inr ⟨_, rfl⟩) ?_
      refine jv_iload (jv_dk t_L_law (k := 446) rfl) rfl ?_
      refine jv_iconst (v := 2) (jv_dk t_L_law (k := 447) rfl) (by decide) ?_
      refine jv_iadd (jv_dk t_L_law (k := 448) rfl) ?_
      refine jv_xI (jv_dk t_L_law (k := 449) rfl) (fun v277 => ?_)
      refine jv_aload_n (jv_dk t_L_law (k := 450) rfl) rfl rfl (Or.inr ⟨_, rfl⟩) ?_
      refine jv_iload (jv_dk t_L_law (k := 451) rfl) rfl ?_
      refine jv_iconst (v := 3) (jv_dk t_L_law (k := 452) rfl) (by decide) ?_
      refine jv_iadd (jv_dk t_L_law (k := 453) rfl) ?_
      refine jv_xI (jv_dk t_L_law (k := 454) rfl) (fun v278 => ?_)
      refine jv_aload_n (jv_dk t_L_law (k := 455) rfl) rfl rfl (Or.inr ⟨_, rfl⟩) ?_
      refine jv_callH (en' := jeI) (pv := jpI) (As := [.ref (x1), .int (v276), .int (v277), .int (v278), .ref (x3)]) (S := []) (jv_dk t_L_law (k := 456) rfl) (fun _ => rfl) lk_L_113 me_L_range ms_L_range ⟨by decide, by decide⟩ rfl rfl (Nat.le_of_ble_eq_true rfl) (P_L_range X x1 v276 v277 v278 x3 h) (fun v279 h280 => ?_)
      show jv_O X M_L_law _ jeI 833 [some (.ref (jv_ad X 13)), some (.ref (x1)), some (.ref (x2)), some (.ref (x3)), some (.int (x4)), none, none] [.int (v279)] h280 _
      refine jv_istore (L' := [some (.ref (jv_ad X 13)), some (.ref (x1)), some (.ref (x2)), some (.ref (x3)), some (.int (x4)), some (.int (v279)), none]) (jv_dk t_L_law (k := 457) rfl) (Nat.le_of_ble_eq_true rfl) rfl ?_
      refine jv_aload_n (jv_dk t_L_law (k := 458) rfl) rfl rfl (Or.inr ⟨_, rfl⟩) ?_
      refine jv_aload_n (jv_dk t_L_law (k := 459) rfl) rfl rfl (Or.inr ⟨_, rfl⟩) ?_
      refine jv_iload (jv_dk t_L_law (k := 460) rfl) rfl ?_
      refine jv_iconst (v := 1) (jv_dk t_L_law (k := 461) rfl) (by decide) ?_
      refine jv_iadd (jv_dk t_L_law (k := 462) rfl) ?_
      refine jv_xI (jv_dk t_L_law (k := 463) rfl) (fun v281 => ?_)
      refine jv_aload_n (jv_dk t_L_law (k := 464) rfl) rfl rfl (Or.inr ⟨_, rfl⟩) ?_
      refine jv_iload (jv_dk t_L_law (k := 465) rfl) rfl ?_
      refine jv_iconst (v := 2) (jv_dk t_L_law (k := 466) rfl) (by decide) ?_
      refine jv_iadd (jv_dk t_L_law (k := 467) rfl) ?_
      refine jv_xI (jv_dk t_L_law (k := 468) rfl) (fun v282 => ?_)
      refine jv_aload_n (jv_dk t_L_law (k := 469) rfl) rfl rfl (Or.inr ⟨_, rfl⟩) ?_
      refine jv_iload (jv_dk t_L_law (k := 470) rfl) rfl ?_
      refine jv_iconst (v := 3) (jv_dk t_L_law (k := 471) rfl) (by decide) ?_
      refine jv_iadd (jv_dk t_L_law (k := 472) rfl) ?_
      refine jv_xI (jv_dk t_L_law (k := 473) rfl) (fun v283 => ?_)
      refine jv_callV (en' := jeI) (pv := jpI) (As := [.int (v281), .int (v282), .int (v283)]) (S := []) (jv_dk t_L_law (k := 474) rfl) (fun _ => rfl) (Or.inl lk_L_115) me_X13_range mv_X13_range ⟨by decide, by decide⟩ rfl rfl rfl (Nat.le_of_ble_eq_true rfl) (P_X13_range X x2 v281 v282 v283 h280) (fun v284 h285 => ?_)
      show jv_O X M_L_law _ jeI 857 [some (.ref (jv_ad X 13)), some (.ref (x1)), some (.ref (x2)), some (.ref (x3)), some (.int (x4)), some (.int (v279)), none] [.int (v284)] h285 _
      refine jv_istore (L' := [some (.ref (jv_ad X 13)), some (.ref (x1)), some (.ref (x2)), some (.ref (x3)), some (.int (x4)), some (.int (v279)), some (.int (v284))]) (jv_dk t_L_law (k := 475) rfl) (Nat.le_of_ble_eq_true rfl) rfl ?_
      refine jv_aload_n (jv_dk t_L_law (k := 476) rfl) rfl rfl (Or.inr ⟨_, rfl⟩) ?_
      refine jv_callV (en' := jeI) (pv := jpI) (As := []) (S := []) (jv_dk t_L_law (k := 477) rfl) (fun _ => rfl) (Or.inl lk_L_82) me_X13_thrown mv_X13_thrown ⟨by decide, by decide⟩ rfl rfl rfl (Nat.le_of_ble_eq_true rfl) (P_X13_thrown X x2 h285) (fun v286 h287 => ?_)
      show jv_O X M_L_law _ jeI 863 [some (.ref (jv_ad X 13)), some (.ref (x1)), some (.ref (x2)), some (.ref (x3)), some (.int (x4)), some (.int (v279)), some (.int (v284))] [.int (v286)] h287 _
      refine jv_iload (jv_dk t_L_law (k := 478) rfl) rfl ?_
      refine jv_icmp_eq (tgt := 870) (jv_dk t_L_law (k := 479) rfl) rfl (fun c288 => ?_) (fun c288 => ?_)
      · refine jv_iload (jv_dk t_L_law (k := 482) rfl) rfl ?_
        refine jv_if_ne (tgt := 887) (jv_dk t_L_law (k := 483) rfl) rfl (fun c289 => ?_) (fun c289 => ?_)
        · refine jv_goto (tgt := 1929) (jv_dk t_L_law (k := 493) rfl) rfl ?_
          refine jv_iinc (v := 6) (L' := [some (.ref (jv_ad X 13)), some (.ref (x1)), some (.ref (x2)), some (.ref (x3)), some (.int (x4 + 6)), some (.int (v279)), some (.int (v284))]) (jv_dk t_L_law (k := 1203) rfl) rfl (by decide) rfl ?_
          refine jv_goto (tgt := 23) (jv_dk t_L_law (k := 1204) rfl) rfl ?_
          refine jv_le_row (jv_le_s (jv_le_s (jv_le_s (jv_le_s (jv_le_s (jv_le_n (jv_le_n (jv_le_nil)))))))) ?_
          exact hR23 _ _ _ _ _ 
        · show jv_O _ _ _ _ 875 _ _ _ _
          refine jv_aload_n (jv_dk t_L_law (k := 484) rfl) rfl rfl (Or.inr ⟨_, rfl⟩) ?_
          refine jv_iconst (v := 0) (jv_dk t_L_law (k := 485) rfl) (by decide) ?_
          refine jv_laload (jv_dk t_L_law (k := 486) rfl) (fun v290 => ?_)
          refine jv_iload (jv_dk t_L_law (k := 487) rfl) rfl ?_
          refine jv_i2l (jv_dk t_L_law (k := 488) rfl) ?_
          refine jv_lcmp (jv_dk t_L_law (k := 489) rfl) ?_
          refine jv_if_eq (tgt := 887) (jv_dk t_L_law (k := 490) rfl) rfl (fun c291 => ?_) (fun c291 => ?_)
          · refine jv_goto (tgt := 1929) (jv_dk t_L_law (k := 493) rfl) rfl ?_
            refine jv_iinc (v := 6) (L' := [some (.ref (jv_ad X 13)), some (.ref (x1)), some (.ref (x2)), some (.ref (x3)), some (.int (x4 + 6)), some (.int (v279)), some (.int (v284))]) (jv_dk t_L_law (k := 1203) rfl) rfl (by decide) rfl ?_
            refine jv_goto (tgt := 23) (jv_dk t_L_law (k := 1204) rfl) rfl ?_
            refine jv_le_row (jv_le_s (jv_le_s (jv_le_s (jv_le_s (jv_le_s (jv_le_n (jv_le_n (jv_le_nil)))))))) ?_
            exact hR23 _ _ _ _ _ 
          · show jv_O _ _ _ _ 885 _ _ _ _
            refine jv_iconst (v := 0) (jv_dk t_L_law (k := 491) rfl) (by decide) ?_
            exact jv_iret (ty := .boolean) (jv_dk t_L_law (k := 492) rfl) rfl rfl rfl
      · show jv_O _ _ _ _ 868 _ _ _ _
        refine jv_iconst (v := 0) (jv_dk t_L_law (k := 480) rfl) (by decide) ?_
        exact jv_iret (ty := .boolean) (jv_dk t_L_law (k := 481) rfl) rfl rfl rfl
    rw [if_neg c21]
    by_cases c22 : (v10 &&& 63) = 11
    · rw [if_pos c22]
      refine jv_tbl (tgt := 890) (jv_dk t_L_law (k := 24) rfl) (by rw [c22] <;> decide) (by rw [c22] <;> decide) (by rw [c22] <;> rfl) rfl ?_
      refine jv_aload_n (jv_dk t_L_law (k := 494) rfl) rfl rfl (Or.inr ⟨_, rfl⟩) ?_
      refine jv_aload_n (jv_dk t_L_law (k := 495) rfl) rfl rfl (Or.inr ⟨_, rfl⟩) ?_
      refine jv_iload (jv_dk t_L_law (k := 496) rfl) rfl ?_
      refine jv_iconst (v := 1) (jv_dk t_L_law (k := 497) rfl) (by decide) ?_
      refine jv_iadd (jv_dk t_L_law (k := 498) rfl) ?_
      refine jv_xI (jv_dk t_L_law (k := 499) rfl) (fun v262 => ?_)
      refine jv_aload_n (jv_dk t_L_law (k := 500) rfl) rfl rfl (Or.inr ⟨_, rfl⟩) ?_
      refine jv_iload (jv_dk t_L_law (k := 501) rfl) rfl ?_
      refine jv_iconst (v := 2) (jv_dk t_L_law (k := 502) rfl) (by decide) ?_
      refine jv_iadd (jv_dk t_L_law (k := 503) rfl) ?_
      refine jv_xI (jv_dk t_L_law (k := 504) rfl) (fun v263 => ?_)
      refine jv_aload_n (jv_dk t_L_law (k := 505) rfl) rfl rfl (Or.inr ⟨_, rfl⟩) ?_
      refine jv_callH (en' := jeI) (pv := jpI) (As := [.ref (x1), .int (v262), .int (v263), .ref (x3)]) (S := []) (jv_dk t_L_law (k := 506) rfl) (fun _ => rfl) lk_L_116 me_L_mounted ms_L_mounted ⟨by decide, by decide⟩ rfl rfl (Nat.le_of_ble_eq_true rfl) (P_L_mounted X x1 v262 v263 x3 h) (fun v264 h265 => ?_)
      show jv_O X M_L_law _ jeI 907 [some (.ref (jv_ad X 13)), some (.ref (x1)), some (.ref (x2)), some (.ref (x3)), some (.int (x4)), none, none] [.int (v264)] h265 _
      refine jv_istore (L' := [some (.ref (jv_ad X 13)), some (.ref (x1)), some (.ref (x2)), some (.ref (x3)), some (.int (x4)), some (.int (v264)), none]) (jv_dk t_L_law (k := 507) rfl) (Nat.le_of_ble_eq_true rfl) rfl ?_
      refine jv_aload_n (jv_dk t_L_law (k := 508) rfl) rfl rfl (Or.inr ⟨_, rfl⟩) ?_
      refine jv_aload_n (jv_dk t_L_law (k := 509) rfl) rfl rfl (Or.inr ⟨_, rfl⟩) ?_
      refine jv_iload (jv_dk t_L_law (k := 510) rfl) rfl ?_
      refine jv_iconst (v := 1) (jv_dk t_L_law (k := 511) rfl) (by decide) ?_
      refine jv_iadd (jv_dk t_L_law (k := 512) rfl) ?_
      refine jv_xI (jv_dk t_L_law (k := 513) rfl) (fun v266 => ?_)
      refine jv_aload_n (jv_dk t_L_law (k := 514) rfl) rfl rfl (Or.inr ⟨_, rfl⟩) ?_
      refine jv_iload (jv_dk t_L_law (k := 515) rfl) rfl ?_
      refine jv_iconst (v := 2) (jv_dk t_L_law (k := 516) rfl) (by decide) ?_
      refine jv_iadd (jv_dk t_L_law (k := 517) rfl) ?_
      refine jv_xI (jv_dk t_L_law (k := 518) rfl) (fun v267 => ?_)
      refine jv_callV (en' := jeI) (pv := jpI) (As := [.int (v266), .int (v267)]) (S := []) (jv_dk t_L_law (k := 519) rfl) (fun _ => rfl) (Or.inl lk_L_118) me_X13_mounted mv_X13_mounted ⟨by decide, by decide⟩ rfl rfl rfl (Nat.le_of_ble_eq_true rfl) (P_X13_mounted X x2 v266 v267 h265) (fun v268 h269 => ?_)
      show jv_O X M_L_law _ jeI 925 [some (.ref (jv_ad X 13)), some (.ref (x1)), some (.ref (x2)), some (.ref (x3)), some (.int (x4)), some (.int (v264)), none] [.int (v268)] h269 _
      refine jv_istore (L' := [some (.ref (jv_ad X 13)), some (.ref (x1)), some (.ref (x2)), some (.ref (x3)), some (.int (x4)), some (.int (v264)), some (.int (v268))]) (jv_dk t_L_law (k := 520) rfl) (Nat.le_of_ble_eq_true rfl) rfl ?_
      refine jv_aload_n (jv_dk t_L_law (k := 521) rfl) rfl rfl (Or.inr ⟨_, rfl⟩) ?_
      refine jv_callV (en' := jeI) (pv := jpI) (As := []) (S := []) (jv_dk t_L_law (k := 522) rfl) (fun _ => rfl) (Or.inl lk_L_82) me_X13_thrown mv_X13_thrown ⟨by decide, by decide⟩ rfl rfl rfl (Nat.le_of_ble_eq_true rfl) (P_X13_thrown X x2 h269) (fun v270 h271 => ?_)
      show jv_O X M_L_law _ jeI 931 [some (.ref (jv_ad X 13)), some (.ref (x1)), some (.ref (x2)), some (.ref (x3)), some (.int (x4)), some (.int (v264)), some (.int (v268))] [.int (v270)] h271 _
      refine jv_iload (jv_dk t_L_law (k := 523) rfl) rfl ?_
      refine jv_icmp_eq (tgt := 938) (jv_dk t_L_law (k := 524) rfl) rfl (fun c272 => ?_) (fun c272 => ?_)
      · refine jv_iload (jv_dk t_L_law (k := 527) rfl) rfl ?_
        refine jv_if_ne (tgt := 955) (jv_dk t_L_law (k := 528) rfl) rfl (fun c273 => ?_) (fun c273 => ?_)
        · refine jv_goto (tgt := 1929) (jv_dk t_L_law (k := 538) rfl) rfl ?_
          refine jv_iinc (v := 6) (L' := [some (.ref (jv_ad X 13)), some (.ref (x1)), some (.ref (x2)), some (.ref (x3)), some (.int (x4 + 6)), some (.int (v264)), some (.int (v268))]) (jv_dk t_L_law (k := 1203) rfl) rfl (by decide) rfl ?_
          refine jv_goto (tgt := 23) (jv_dk t_L_law (k := 1204) rfl) rfl ?_
          refine jv_le_row (jv_le_s (jv_le_s (jv_le_s (jv_le_s (jv_le_s (jv_le_n (jv_le_n (jv_le_nil)))))))) ?_
          exact hR23 _ _ _ _ _ 
        · show jv_O _ _ _ _ 943 _ _ _ _
          refine jv_aload_n (jv_dk t_L_law (k := 529) rfl) rfl rfl (Or.inr ⟨_, rfl⟩) ?_
          refine jv_iconst (v := 0) (jv_dk t_L_law (k := 530) rfl) (by decide) ?_
          refine jv_laload (jv_dk t_L_law (k := 531) rfl) (fun v274 => ?_)
          refine jv_iload (jv_dk t_L_law (k := 532) rfl) rfl ?_
          refine jv_i2l (jv_dk t_L_law (k := 533) rfl) ?_
          refine jv_lcmp (jv_dk t_L_law (k := 534) rfl) ?_
          refine jv_if_eq (tgt := 955) (jv_dk t_L_law (k := 535) rfl) rfl (fun c275 => ?_) (fun c275 => ?_)
          · refine jv_goto (tgt := 1929) (jv_dk t_L_law (k := 538) rfl) rfl ?_
            refine jv_iinc (v := 6) (L' := [some (.ref (jv_ad X 13)), some (.ref (x1)), some (.ref (x2)), some (.ref (x3)), some (.int (x4 + 6)), some (.int (v264)), some (.int (v268))]) (jv_dk t_L_law (k := 1203) rfl) rfl (by decide) rfl ?_
            refine jv_goto (tgt := 23) (jv_dk t_L_law (k := 1204) rfl) rfl ?_
            refine jv_le_row (jv_le_s (jv_le_s (jv_le_s (jv_le_s (jv_le_s (jv_le_n (jv_le_n (jv_le_nil)))))))) ?_
            exact hR23 _ _ _ _ _ 
          · show jv_O _ _ _ _ 953 _ _ _ _
            refine jv_iconst (v := 0) (jv_dk t_L_law (k := 536) rfl) (by decide) ?_
            exact jv_iret (ty := .boolean) (jv_dk t_L_law (k := 537) rfl) rfl rfl rfl
      · show jv_O _ _ _ _ 936 _ _ _ _
        refine jv_iconst (v := 0) (jv_dk t_L_law (k := 525) rfl) (by decide) ?_
        exact jv_iret (ty := .boolean) (jv_dk t_L_law (k := 526) rfl) rfl rfl rfl
    rw [if_neg c22]
    by_cases c23 : (v10 &&& 63) = 12
    · rw [if_pos c23]
      refine jv_tbl (tgt := 958) (jv_dk t_L_law (k := 24) rfl) (by rw [c23] <;> decide) (by rw [c23] <;> decide) (by rw [c23] <;> rfl) rfl ?_
      refine jv_aload_n (jv_dk t_L_law (k := 539) rfl) rfl rfl (Or.inr ⟨_, rfl⟩) ?_
      refine jv_aload_n (jv_dk t_L_law (k := 540) rfl) rfl rfl (Or.inr ⟨_, rfl⟩) ?_
      refine jv_iload (jv_dk t_L_law (k := 541) rfl) rfl ?_
      refine jv_iconst (v := 1) (jv_dk t_L_law (k := 542) rfl) (by decide) ?_
      refine jv_iadd (jv_dk t_L_law (k := 543) rfl) ?_
      refine jv_xI (jv_dk t_L_law (k := 544) rfl) (fun v246 => ?_)
      refine jv_aload_n (jv_dk t_L_law (k := 545) rfl) rfl rfl (Or.inr ⟨_, rfl⟩) ?_
      refine jv_iload (jv_dk t_L_law (k := 546) rfl) rfl ?_
      refine jv_iconst (v := 2) (jv_dk t_L_law (k := 547) rfl) (by decide) ?_
      refine jv_iadd (jv_dk t_L_law (k := 548) rfl) ?_
      refine jv_xI (jv_dk t_L_law (k := 549) rfl) (fun v247 => ?_)
      refine jv_aload_n (jv_dk t_L_law (k := 550) rfl) rfl rfl (Or.inr ⟨_, rfl⟩) ?_
      refine jv_iload (jv_dk t_L_law (k := 551) rfl) rfl ?_
      refine jv_iconst (v := 3) (jv_dk t_L_law (k := 552) rfl) (by decide) ?_
      refine jv_iadd (jv_dk t_L_law (k := 553) rfl) ?_
      refine jv_xI (jv_dk t_L_law (k := 554) rfl) (fun v248 => ?_)
      refine jv_aload_n (jv_dk t_L_law (k := 555) rfl) rfl rfl (Or.inr ⟨_, rfl⟩) ?_
      refine jv_callH (en' := jeI) (pv := jpI) (As := [.ref (x1), .int (v246), .int (v247), .int (v248), .ref (x3)]) (S := []) (jv_dk t_L_law (k := 556) rfl) (fun _ => rfl) lk_L_119 me_L_may ms_L_may ⟨by decide, by decide⟩ rfl rfl (Nat.le_of_ble_eq_true rfl) (P_L_may X x1 v246 v247 v248 x3 h) (fun v249 h250 => ?_)
      show jv_O X M_L_law _ jeI 981 [some (.ref (jv_ad X 13)), some (.ref (x1)), some (.ref (x2)), some (.ref (x3)), some (.int (x4)), none, none] [.int (v249)] h250 _
      refine jv_istore (L' := [some (.ref (jv_ad X 13)), some (.ref (x1)), some (.ref (x2)), some (.ref (x3)), some (.int (x4)), some (.int (v249)), none]) (jv_dk t_L_law (k := 557) rfl) (Nat.le_of_ble_eq_true rfl) rfl ?_
      refine jv_aload_n (jv_dk t_L_law (k := 558) rfl) rfl rfl (Or.inr ⟨_, rfl⟩) ?_
      refine jv_aload_n (jv_dk t_L_law (k := 559) rfl) rfl rfl (Or.inr ⟨_, rfl⟩) ?_
      refine jv_iload (jv_dk t_L_law (k := 560) rfl) rfl ?_
      refine jv_iconst (v := 1) (jv_dk t_L_law (k := 561) rfl) (by decide) ?_
      refine jv_iadd (jv_dk t_L_law (k := 562) rfl) ?_
      refine jv_xI (jv_dk t_L_law (k := 563) rfl) (fun v251 => ?_)
      refine jv_aload_n (jv_dk t_L_law (k := 564) rfl) rfl rfl (Or.inr ⟨_, rfl⟩) ?_
      refine jv_iload (jv_dk t_L_law (k := 565) rfl) rfl ?_
      refine jv_iconst (v := 2) (jv_dk t_L_law (k := 566) rfl) (by decide) ?_
      refine jv_iadd (jv_dk t_L_law (k := 567) rfl) ?_
      refine jv_xI (jv_dk t_L_law (k := 568) rfl) (fun v252 => ?_)
      refine jv_aload_n (jv_dk t_L_law (k := 569) rfl) rfl rfl (Or.inr ⟨_, rfl⟩) ?_
      refine jv_iload (jv_dk t_L_law (k := 570) rfl) rfl ?_
      refine jv_iconst (v := 3) (jv_dk t_L_law (k := 571) rfl) (by decide) ?_
      refine jv_iadd (jv_dk t_L_law (k := 572) rfl) ?_
      refine jv_xI (jv_dk t_L_law (k := 573) rfl) (fun v253 => ?_)
      refine jv_callV (en' := jeI) (pv := jpI) (As := [.int (v251), .int (v252), .int (v253)]) (S := []) (jv_dk t_L_law (k := 574) rfl) (fun _ => rfl) (Or.inl lk_L_121) me_X13_may mv_X13_may ⟨by decide, by decide⟩ rfl rfl rfl (Nat.le_of_ble_eq_true rfl) (P_X13_may X x2 v251 v252 v253 h250) (fun v254 h255 => ?_)
      show jv_O X M_L_law _ jeI 1005 [some (.ref (jv_ad X 13)), some (.ref (x1)), some (.ref (x2)), some (.ref (x3)), some (.int (x4)), some (.int (v249)), none] [.int (v254)] h255 _
      refine jv_istore (L' := [some (.ref (jv_ad X 13)), some (.ref (x1)), some (.ref (x2)), some (.ref (x3)), some (.int (x4)), some (.int (v249)), some (.int (v254))]) (jv_dk t_L_law (k := 575) rfl) (Nat.le_of_ble_eq_true rfl) rfl ?_
      refine jv_aload_n (jv_dk t_L_law (k := 576) rfl) rfl rfl (Or.inr ⟨_, rfl⟩) ?_
      refine jv_callV (en' := jeI) (pv := jpI) (As := []) (S := []) (jv_dk t_L_law (k := 577) rfl) (fun _ => rfl) (Or.inl lk_L_82) me_X13_thrown mv_X13_thrown ⟨by decide, by decide⟩ rfl rfl rfl (Nat.le_of_ble_eq_true rfl) (P_X13_thrown X x2 h255) (fun v256 h257 => ?_)
      show jv_O X M_L_law _ jeI 1011 [some (.ref (jv_ad X 13)), some (.ref (x1)), some (.ref (x2)), some (.ref (x3)), some (.int (x4)), some (.int (v249)), some (.int (v254))] [.int (v256)] h257 _
      refine jv_iload (jv_dk t_L_law (k := 578) rfl) rfl ?_
      refine jv_icmp_eq (tgt := 1018) (jv_dk t_L_law (k := 579) rfl) rfl (fun c258 => ?_) (fun c258 => ?_)
      · refine jv_iload (jv_dk t_L_law (k := 582) rfl) rfl ?_
        refine jv_if_ne (tgt := 1035) (jv_dk t_L_law (k := 583) rfl) rfl (fun c259 => ?_) (fun c259 => ?_)
        · refine jv_goto (tgt := 1929) (jv_dk t_L_law (k := 593) rfl) rfl ?_
          refine jv_iinc (v := 6) (L' := [some (.ref (jv_ad X 13)), some (.ref (x1)), some (.ref (x2)), some (.ref (x3)), some (.int (x4 + 6)), some (.int (v249)), some (.int (v254))]) (jv_dk t_L_law (k := 1203) rfl) rfl (by decide) rfl ?_
          refine jv_goto (tgt := 23) (jv_dk t_L_law (k := 1204) rfl) rfl ?_
          refine jv_le_row (jv_le_s (jv_le_s (jv_le_s (jv_le_s (jv_le_s (jv_le_n (jv_le_n (jv_le_nil)))))))) ?_
          exact hR23 _ _ _ _ _ 
        · show jv_O _ _ _ _ 1023 _ _ _ _
          refine jv_aload_n (jv_dk t_L_law (k := 584) rfl) rfl rfl (Or.inr ⟨_, rfl⟩) ?_
          refine jv_iconst (v := 0) (jv_dk t_L_law (k := 585) rfl) (by decide) ?_
          refine jv_laload (jv_dk t_L_law (k := 586) rfl) (fun v260 => ?_)
          refine jv_iload (jv_dk t_L_law (k := 587) rfl) rfl ?_
          refine jv_i2l (jv_dk t_L_law (k := 588) rfl) ?_
          refine jv_lcmp (jv_dk t_L_law (k := 589) rfl) ?_
          refine jv_if_eq (tgt := 1035) (jv_dk t_L_law (k := 590) rfl) rfl (fun c261 => ?_) (fun c261 => ?_)
          · refine jv_goto (tgt := 1929) (jv_dk t_L_law (k := 593) rfl) rfl ?_
            refine jv_iinc (v := 6) (L' := [some (.ref (jv_ad X 13)), some (.ref (x1)), some (.ref (x2)), some (.ref (x3)), some (.int (x4 + 6)), some (.int (v249)), some (.int (v254))]) (jv_dk t_L_law (k := 1203) rfl) rfl (by decide) rfl ?_
            refine jv_goto (tgt := 23) (jv_dk t_L_law (k := 1204) rfl) rfl ?_
            refine jv_le_row (jv_le_s (jv_le_s (jv_le_s (jv_le_s (jv_le_s (jv_le_n (jv_le_n (jv_le_nil)))))))) ?_
            exact hR23 _ _ _ _ _ 
          · show jv_O _ _ _ _ 1033 _ _ _ _
            refine jv_iconst (v := 0) (jv_dk t_L_law (k := 591) rfl) (by decide) ?_
            exact jv_iret (ty := .boolean) (jv_dk t_L_law (k := 592) rfl) rfl rfl rfl
      · show jv_O _ _ _ _ 1016 _ _ _ _
        refine jv_iconst (v := 0) (jv_dk t_L_law (k := 580) rfl) (by decide) ?_
        exact jv_iret (ty := .boolean) (jv_dk t_L_law (k := 581) rfl) rfl rfl rfl
    rw [if_neg c23]
    by_cases c24 : (v10 &&& 63) = 13
    · rw [if_pos c24]
      refine jv_tbl (tgt := 1038) (jv_dk t_L_law (k := 24) rfl) (by rw [c24] <;> decide) (by rw [c24] <;> decide) (by rw [c24] <;> rfl) rfl ?_
      refine jv_aload_n (jv_dk t_L_law (k := 594) rfl) rfl rfl (Or.inr ⟨_, rfl⟩) ?_
      refine jv_aload_n (jv_dk t_L_law (k := 595) rfl) rfl rfl (Or.inr ⟨_, rfl⟩) ?_
      refine jv_iload (jv_dk t_L_law (k := 596) rfl) rfl ?_
      refine jv_iconst (v := 1) (jv_dk t_L_law (k := 597) rfl) (by decide) ?_
      refine jv_iadd (jv_dk t_L_law (k := 598) rfl) ?_
      refine jv_xI (jv_dk t_L_law (k := 599) rfl) (fun v232 => ?_)
      refine jv_aload_n (jv_dk t_L_law (k := 600) rfl) rfl rfl (Or.inr ⟨_, rfl⟩) ?_
      refine jv_iload (jv_dk t_L_law (k := 601) rfl) rfl ?_
      refine jv_iconst (v := 2) (jv_dk t_L_law (k := 602) rfl) (by decide) ?_
      refine jv_iadd (jv_dk t_L_law (k := 603) rfl) ?_
      refine jv_xI (jv_dk t_L_law (k := 604) rfl) (fun v233 => ?_)
      refine jv_aload_n (jv_dk t_L_law (k := 605) rfl) rfl rfl (Or.inr ⟨_, rfl⟩) ?_
      refine jv_callH (en' := jeI) (pv := jpI) (As := [.ref (x1), .int (v232), .int (v233), .ref (x3)]) (S := []) (jv_dk t_L_law (k := 606) rfl) (fun _ => rfl) lk_L_122 me_L_over ms_L_over ⟨by decide, by decide⟩ rfl rfl (Nat.le_of_ble_eq_true rfl) (P_L_over X x1 v232 v233 x3 h) (fun v234 h235 => ?_)
      show jv_O X M_L_law _ jeI 1055 [some (.ref (jv_ad X 13)), some (.ref (x1)), some (.ref (x2)), some (.ref (x3)), some (.int (x4)), none, none] [.int (v234)] h235 _
      refine jv_istore (L' := [some (.ref (jv_ad X 13)), some (.ref (x1)), some (.ref (x2)), some (.ref (x3)), some (.int (x4)), some (.int (v234)), none]) (jv_dk t_L_law (k := 607) rfl) (Nat.le_of_ble_eq_true rfl) rfl ?_
      refine jv_aload_n (jv_dk t_L_law (k := 608) rfl) rfl rfl (Or.inr ⟨_, rfl⟩) ?_
      refine jv_aload_n (jv_dk t_L_law (k := 609) rfl) rfl rfl (Or.inr ⟨_, rfl⟩) ?_
      refine jv_iload (jv_dk t_L_law (k := 610) rfl) rfl ?_
      refine jv_iconst (v := 1) (jv_dk t_L_law (k := 611) rfl) (by decide) ?_
      refine jv_iadd (jv_dk t_L_law (k := 612) rfl) ?_
      refine jv_xI (jv_dk t_L_law (k := 613) rfl) (fun v236 => ?_)
      refine jv_aload_n (jv_dk t_L_law (k := 614) rfl) rfl rfl (Or.inr ⟨_, rfl⟩) ?_
      refine jv_iload (jv_dk t_L_law (k := 615) rfl) rfl ?_
      refine jv_iconst (v := 2) (jv_dk t_L_law (k := 616) rfl) (by decide) ?_
      refine jv_iadd (jv_dk t_L_law (k := 617) rfl) ?_
      refine jv_xI (jv_dk t_L_law (k := 618) rfl) (fun v237 => ?_)
      refine jv_callV (en' := jeI) (pv := jpI) (As := [.int (v236), .int (v237)]) (S := []) (jv_dk t_L_law (k := 619) rfl) (fun _ => rfl) (Or.inl lk_L_124) me_X13_over mv_X13_over ⟨by decide, by decide⟩ rfl rfl rfl (Nat.le_of_ble_eq_true rfl) (P_X13_over X x2 v236 v237 h235) (fun v238 h239 => ?_)
      show jv_O X M_L_law _ jeI 1073 [some (.ref (jv_ad X 13)), some (.ref (x1)), some (.ref (x2)), some (.ref (x3)), some (.int (x4)), some (.int (v234)), none] [.int (v238)] h239 _
      refine jv_istore (L' := [some (.ref (jv_ad X 13)), some (.ref (x1)), some (.ref (x2)), some (.ref (x3)), some (.int (x4)), some (.int (v234)), some (.int (v238))]) (jv_dk t_L_law (k := 620) rfl) (Nat.le_of_ble_eq_true rfl) rfl ?_
      refine jv_aload_n (jv_dk t_L_law (k := 621) rfl) rfl rfl (Or.inr ⟨_, rfl⟩) ?_
      refine jv_callV (en' := jeI) (pv := jpI) (As := []) (S := []) (jv_dk t_L_law (k := 622) rfl) (fun _ => rfl) (Or.inl lk_L_82) me_X13_thrown mv_X13_thrown ⟨by decide, by decide⟩ rfl rfl rfl (Nat.le_of_ble_eq_true rfl) (P_X13_thrown X x2 h239) (fun v240 h241 => ?_)
      show jv_O X M_L_law _ jeI 1079 [some (.ref (jv_ad X 13)), some (.ref (x1)), some (.ref (x2)), some (.ref (x3)), some (.int (x4)), some (.int (v234)), some (.int (v238))] [.int (v240)] h241 _
      refine jv_iload (jv_dk t_L_law (k := 623) rfl) rfl ?_
      refine jv_icmp_eq (tgt := 1086) (jv_dk t_L_law (k := 624) rfl) rfl (fun c242 => ?_) (fun c242 => ?_)
      · refine jv_iload (jv_dk t_L_law (k := 627) rfl) rfl ?_
        refine jv_if_ne (tgt := 1103) (jv_dk t_L_law (k := 628) rfl) rfl (fun c243 => ?_) (fun c243 => ?_)
        · refine jv_goto (tgt := 1929) (jv_dk t_L_law (k := 638) rfl) rfl ?_
          refine jv_iinc (v := 6) (L' := [some (.ref (jv_ad X 13)), some (.ref (x1)), some (.ref (x2)), some (.ref (x3)), some (.int (x4 + 6)), some (.int (v234)), some (.int (v238))]) (jv_dk t_L_law (k := 1203) rfl) rfl (by decide) rfl ?_
          refine jv_goto (tgt := 23) (jv_dk t_L_law (k := 1204) rfl) rfl ?_
          refine jv_le_row (jv_le_s (jv_le_s (jv_le_s (jv_le_s (jv_le_s (jv_le_n (jv_le_n (jv_le_nil)))))))) ?_
          exact hR23 _ _ _ _ _ 
        · show jv_O _ _ _ _ 1091 _ _ _ _
          refine jv_aload_n (jv_dk t_L_law (k := 629) rfl) rfl rfl (Or.inr ⟨_, rfl⟩) ?_
          refine jv_iconst (v := 0) (jv_dk t_L_law (k := 630) rfl) (by decide) ?_
          refine jv_laload (jv_dk t_L_law (k := 631) rfl) (fun v244 => ?_)
          refine jv_iload (jv_dk t_L_law (k := 632) rfl) rfl ?_
          refine jv_i2l (jv_dk t_L_law (k := 633) rfl) ?_
          refine jv_lcmp (jv_dk t_L_law (k := 634) rfl) ?_
          refine jv_if_eq (tgt := 1103) (jv_dk t_L_law (k := 635) rfl) rfl (fun c245 => ?_) (fun c245 => ?_)
          · refine jv_goto (tgt := 1929) (jv_dk t_L_law (k := 638) rfl) rfl ?_
            refine jv_iinc (v := 6) (L' := [some (.ref (jv_ad X 13)), some (.ref (x1)), some (.ref (x2)), some (.ref (x3)), some (.int (x4 + 6)), some (.int (v234)), some (.int (v238))]) (jv_dk t_L_law (k := 1203) rfl) rfl (by decide) rfl ?_
            refine jv_goto (tgt := 23) (jv_dk t_L_law (k := 1204) rfl) rfl ?_
            refine jv_le_row (jv_le_s (jv_le_s (jv_le_s (jv_le_s (jv_le_s (jv_le_n (jv_le_n (jv_le_nil)))))))) ?_
            exact hR23 _ _ _ _ _ 
          · show jv_O _ _ _ _ 1101 _ _ _ _
            refine jv_iconst (v := 0) (jv_dk t_L_law (k := 636) rfl) (by decide) ?_
            exact jv_iret (ty := .boolean) (jv_dk t_L_law (k := 637) rfl) rfl rfl rfl
      · show jv_O _ _ _ _ 1084 _ _ _ _
        refine jv_iconst (v := 0) (jv_dk t_L_law (k := 625) rfl) (by decide) ?_
        exact jv_iret (ty := .boolean) (jv_dk t_L_law (k := 626) rfl) rfl rfl rfl
    rw [if_neg c24]
    by_cases c25 : (v10 &&& 63) = 14
    · rw [if_pos c25]
      refine jv_tbl (tgt := 1106) (jv_dk t_L_law (k := 24) rfl) (by rw [c25] <;> decide) (by rw [c25] <;> decide) (by rw [c25] <;> rfl) rfl ?_
      refine jv_aload_n (jv_dk t_L_law (k := 639) rfl) rfl rfl (Or.inr ⟨_, rfl⟩) ?_
      refine jv_aload_n (jv_dk t_L_law (k := 640) rfl) rfl rfl (Or.inr ⟨_, rfl⟩) ?_
      refine jv_iload (jv_dk t_L_law (k := 641) rfl) rfl ?_
      refine jv_iconst (v := 1) (jv_dk t_L_law (k := 642) rfl) (by decide) ?_
      refine jv_iadd (jv_dk t_L_law (k := 643) rfl) ?_
      refine jv_xI (jv_dk t_L_law (k := 644) rfl) (fun v225 => ?_)
      refine jv_callV (en' := jeI) (pv := jpI) (As := [.int (v225)]) (S := []) (jv_dk t_L_law (k := 645) rfl) (fun _ => rfl) (Or.inl lk_L_125) me_X12_fork mv_X12_fork ⟨by decide, by decide⟩ rfl rfl rfl (Nat.le_of_ble_eq_true rfl) (P_X12_fork X x1 v225 h) (fun v226 h227 => ?_)
      show jv_O X M_L_law _ jeI 1116 [some (.ref (jv_ad X 13)), some (.ref (x1)), some (.ref (x2)), some (.ref (x3)), some (.int (x4)), none, none] [.int (v226)] h227 _
      refine jv_aload_n (jv_dk t_L_law (k := 646) rfl) rfl rfl (Or.inr ⟨_, rfl⟩) ?_
      refine jv_aload_n (jv_dk t_L_law (k := 647) rfl) rfl rfl (Or.inr ⟨_, rfl⟩) ?_
      refine jv_iload (jv_dk t_L_law (k := 648) rfl) rfl ?_
      refine jv_iconst (v := 1) (jv_dk t_L_law (k := 649) rfl) (by decide) ?_
      refine jv_iadd (jv_dk t_L_law (k := 650) rfl) ?_
      refine jv_xI (jv_dk t_L_law (k := 651) rfl) (fun v228 => ?_)
      refine jv_callV (en' := jeI) (pv := jpI) (As := [.int (v228)]) (S := [.int (v226)]) (jv_dk t_L_law (k := 652) rfl) (fun _ => rfl) (Or.inl lk_L_128) me_X13_fork mv_X13_fork ⟨by decide, by decide⟩ rfl rfl rfl (Nat.le_of_ble_eq_true rfl) (P_X13_fork X x2 v228 h227) (fun v229 h230 => ?_)
      show jv_O X M_L_law _ jeI 1126 [some (.ref (jv_ad X 13)), some (.ref (x1)), some (.ref (x2)), some (.ref (x3)), some (.int (x4)), none, none] [.int (v229), .int (v226)] h230 _
      refine jv_icmp_eq (tgt := 1929) (jv_dk t_L_law (k := 653) rfl) rfl (fun c231 => ?_) (fun c231 => ?_)
      · refine jv_iinc (v := 6) (L' := [some (.ref (jv_ad X 13)), some (.ref (x1)), some (.ref (x2)), some (.ref (x3)), some (.int (x4 + 6)), none, none]) (jv_dk t_L_law (k := 1203) rfl) rfl (by decide) rfl ?_
        refine jv_goto (tgt := 23) (jv_dk t_L_law (k := 1204) rfl) rfl ?_
        exact hR23 _ _ _ _ _ 
      · show jv_O _ _ _ _ 1129 _ _ _ _
        refine jv_iconst (v := 0) (jv_dk t_L_law (k := 654) rfl) (by decide) ?_
        exact jv_iret (ty := .boolean) (jv_dk t_L_law (k := 655) rfl) rfl rfl rfl
    rw [if_neg c25]
    by_cases c26 : (v10 &&& 63) = 15
    · rw [if_pos c26]
      refine jv_tbl (tgt := 1131) (jv_dk t_L_law (k := 24) rfl) (by rw [c26] <;> decide) (by rw [c26] <;> decide) (by rw [c26] <;> rfl) rfl ?_
      refine jv_aload_n (jv_dk t_L_law (k := 656) rfl) rfl rfl (Or.inr ⟨_, rfl⟩) ?_
      refine jv_aload_n (jv_dk t_L_law (k := 657) rfl) rfl rfl (Or.inr ⟨_, rfl⟩) ?_
      refine jv_iload (jv_dk t_L_law (k := 658) rfl) rfl ?_
      refine jv_iconst (v := 1) (jv_dk t_L_law (k := 659) rfl) (by decide) ?_
      refine jv_iadd (jv_dk t_L_law (k := 660) rfl) ?_
      refine jv_xI (jv_dk t_L_law (k := 661) rfl) (fun v216 => ?_)
      refine jv_aload_n (jv_dk t_L_law (k := 662) rfl) rfl rfl (Or.inr ⟨_, rfl⟩) ?_
      refine jv_iload (jv_dk t_L_law (k := 663) rfl) rfl ?_
      refine jv_iconst (v := 2) (jv_dk t_L_law (k := 664) rfl) (by decide) ?_
      refine jv_iadd (jv_dk t_L_law (k := 665) rfl) ?_
      refine jv_xI (jv_dk t_L_law (k := 666) rfl) (fun v217 => ?_)
      refine jv_callV (en' := jeI) (pv := jpI) (As := [.int (v216), .int (v217)]) (S := []) (jv_dk t_L_law (k := 667) rfl) (fun _ => rfl) (Or.inl lk_L_129) me_X12_create mv_X12_create ⟨by decide, by decide⟩ rfl rfl rfl (Nat.le_of_ble_eq_true rfl) (P_X12_create X x1 v216 v217 h) (fun v218 h219 => ?_)
      show jv_O X M_L_law _ jeI 1147 [some (.ref (jv_ad X 13)), some (.ref (x1)), some (.ref (x2)), some (.ref (x3)), some (.int (x4)), none, none] [.int (v218)] h219 _
      refine jv_aload_n (jv_dk t_L_law (k := 668) rfl) rfl rfl (Or.inr ⟨_, rfl⟩) ?_
      refine jv_aload_n (jv_dk t_L_law (k := 669) rfl) rfl rfl (Or.inr ⟨_, rfl⟩) ?_
      refine jv_iload (jv_dk t_L_law (k := 670) rfl) rfl ?_
      refine jv_iconst (v := 1) (jv_dk t_L_law (k := 671) rfl) (by decide) ?_
      refine jv_iadd (jv_dk t_L_law (k := 672) rfl) ?_
      refine jv_xI (jv_dk t_L_law (k := 673) rfl) (fun v220 => ?_)
      refine jv_aload_n (jv_dk t_L_law (k := 674) rfl) rfl rfl (Or.inr ⟨_, rfl⟩) ?_
      refine jv_iload (jv_dk t_L_law (k := 675) rfl) rfl ?_
      refine jv_iconst (v := 2) (jv_dk t_L_law (k := 676) rfl) (by decide) ?_
      refine jv_iadd (jv_dk t_L_law (k := 677) rfl) ?_
      refine jv_xI (jv_dk t_L_law (k := 678) rfl) (fun v221 => ?_)
      refine jv_callV (en' := jeI) (pv := jpI) (As := [.int (v220), .int (v221)]) (S := [.int (v218)]) (jv_dk t_L_law (k := 679) rfl) (fun _ => rfl) (Or.inl lk_L_132) me_X13_create mv_X13_create ⟨by decide, by decide⟩ rfl rfl rfl (Nat.le_of_ble_eq_true rfl) (P_X13_create X x2 v220 v221 h219) (fun v222 h223 => ?_)
      show jv_O X M_L_law _ jeI 1163 [some (.ref (jv_ad X 13)), some (.ref (x1)), some (.ref (x2)), some (.ref (x3)), some (.int (x4)), none, none] [.int (v222), .int (v218)] h223 _
      refine jv_icmp_eq (tgt := 1929) (jv_dk t_L_law (k := 680) rfl) rfl (fun c224 => ?_) (fun c224 => ?_)
      · refine jv_iinc (v := 6) (L' := [some (.ref (jv_ad X 13)), some (.ref (x1)), some (.ref (x2)), some (.ref (x3)), some (.int (x4 + 6)), none, none]) (jv_dk t_L_law (k := 1203) rfl) rfl (by decide) rfl ?_
        refine jv_goto (tgt := 23) (jv_dk t_L_law (k := 1204) rfl) rfl ?_
        exact hR23 _ _ _ _ _ 
      · show jv_O _ _ _ _ 1166 _ _ _ _
        refine jv_iconst (v := 0) (jv_dk t_L_law (k := 681) rfl) (by decide) ?_
        exact jv_iret (ty := .boolean) (jv_dk t_L_law (k := 682) rfl) rfl rfl rfl
    rw [if_neg c26]
    by_cases c27 : (v10 &&& 63) = 16
    · rw [if_pos c27]
      refine jv_tbl (tgt := 1168) (jv_dk t_L_law (k := 24) rfl) (by rw [c27] <;> decide) (by rw [c27] <;> decide) (by rw [c27] <;> rfl) rfl ?_
      refine jv_aload_n (jv_dk t_L_law (k := 683) rfl) rfl rfl (Or.inr ⟨_, rfl⟩) ?_
      refine jv_aload_n (jv_dk t_L_law (k := 684) rfl) rfl rfl (Or.inr ⟨_, rfl⟩) ?_
      refine jv_iload (jv_dk t_L_law (k := 685) rfl) rfl ?_
      refine jv_iconst (v := 1) (jv_dk t_L_law (k := 686) rfl) (by decide) ?_
      refine jv_iadd (jv_dk t_L_law (k := 687) rfl) ?_
      refine jv_xI (jv_dk t_L_law (k := 688) rfl) (fun v201 => ?_)
      refine jv_aload_n (jv_dk t_L_law (k := 689) rfl) rfl rfl (Or.inr ⟨_, rfl⟩) ?_
      refine jv_iload (jv_dk t_L_law (k := 690) rfl) rfl ?_
      refine jv_iconst (v := 2) (jv_dk t_L_law (k := 691) rfl) (by decide) ?_
      refine jv_iadd (jv_dk t_L_law (k := 692) rfl) ?_
      refine jv_xI (jv_dk t_L_law (k := 693) rfl) (fun v202 => ?_)
      refine jv_aload_n (jv_dk t_L_law (k := 694) rfl) rfl rfl (Or.inr ⟨_, rfl⟩) ?_
      refine jv_iload (jv_dk t_L_law (k := 695) rfl) rfl ?_
      refine jv_iconst (v := 3) (jv_dk t_L_law (k := 696) rfl) (by decide) ?_
      refine jv_iadd (jv_dk t_L_law (k := 697) rfl) ?_
      refine jv_xI (jv_dk t_L_law (k := 698) rfl) (fun v203 => ?_)
      refine jv_aload_n (jv_dk t_L_law (k := 699) rfl) rfl rfl (Or.inr ⟨_, rfl⟩) ?_
      refine jv_iload (jv_dk t_L_law (k := 700) rfl) rfl ?_
      refine jv_iconst (v := 4) (jv_dk t_L_law (k := 701) rfl) (by decide) ?_
      refine jv_iadd (jv_dk t_L_law (k := 702) rfl) ?_
      refine jv_xI (jv_dk t_L_law (k := 703) rfl) (fun v204 => ?_)
      refine jv_aload_n (jv_dk t_L_law (k := 704) rfl) rfl rfl (Or.inr ⟨_, rfl⟩) ?_
      refine jv_iload (jv_dk t_L_law (k := 705) rfl) rfl ?_
      refine jv_iconst (v := 5) (jv_dk t_L_law (k := 706) rfl) (by decide) ?_
      refine jv_iadd (jv_dk t_L_law (k := 707) rfl) ?_
      refine jv_xI (jv_dk t_L_law (k := 708) rfl) (fun v205 => ?_)
      refine jv_callV (en' := jeI) (pv := jpI) (As := [.int (v201), .int (v202), .int (v203), .int (v204), .int (v205)]) (S := []) (jv_dk t_L_law (k := 709) rfl) (fun _ => rfl) (Or.inl lk_L_133) me_X12_map mv_X12_map ⟨by decide, by decide⟩ rfl rfl rfl (Nat.le_of_ble_eq_true rfl) (P_X12_map X x1 v201 v202 v203 v204 v205 h) (fun v206 h207 => ?_)
      show jv_O X M_L_law _ jeI 1202 [some (.ref (jv_ad X 13)), some (.ref (x1)), some (.ref (x2)), some (.ref (x3)), some (.int (x4)), none, none] [.int (v206)] h207 _
      refine jv_aload_n (jv_dk t_L_law (k := 710) rfl) rfl rfl (Or.inr ⟨_, rfl⟩) ?_
      refine jv_aload_n (jv_dk t_L_law (k := 711) rfl) rfl rfl (Or.inr ⟨_, rfl⟩) ?_
      refine jv_iload (jv_dk t_L_law (k := 712) rfl) rfl ?_
      refine jv_iconst (v := 1) (jv_dk t_L_law (k := 713) rfl) (by decide) ?_
      refine jv_iadd (jv_dk t_L_law (k := 714) rfl) ?_
      refine jv_xI (jv_dk t_L_law (k := 715) rfl) (fun v208 => ?_)
      refine jv_aload_n (jv_dk t_L_law (k := 716) rfl) rfl rfl (Or.inr ⟨_, rfl⟩) ?_
      refine jv_iload (jv_dk t_L_law (k := 717) rfl) rfl ?_
      refine jv_iconst (v := 2) (jv_dk t_L_law (k := 718) rfl) (by decide) ?_
      refine jv_iadd (jv_dk t_L_law (k := 719) rfl) ?_
      refine jv_xI (jv_dk t_L_law (k := 720) rfl) (fun v209 => ?_)
      refine jv_aload_n (jv_dk t_L_law (k := 721) rfl) rfl rfl (Or.inr ⟨_, rfl⟩) ?_
      refine jv_iload (jv_dk t_L_law (k := 722) rfl) rfl ?_
      refine jv_iconst (v := 3) (jv_dk t_L_law (k := 723) rfl) (by decide) ?_
      refine jv_iadd (jv_dk t_L_law (k := 724) rfl) ?_
      refine jv_xI (jv_dk t_L_law (k := 725) rfl) (fun v210 => ?_)
      refine jv_aload_n (jv_dk t_L_law (k := 726) rfl) rfl rfl (Or.inr ⟨_, rfl⟩) ?_
      refine jv_iload (jv_dk t_L_law (k := 727) rfl) rfl ?_
      refine jv_iconst (v := 4) (jv_dk t_L_law (k := 728) rfl) (by decide) ?_
      refine jv_iadd (jv_dk t_L_law (k := 729) rfl) ?_
      refine jv_xI (jv_dk t_L_law (k := 730) rfl) (fun v211 => ?_)
      refine jv_aload_n (jv_dk t_L_law (k := 731) rfl) rfl rfl (Or.inr ⟨_, rfl⟩) ?_
      refine jv_iload (jv_dk t_L_law (k := 732) rfl) rfl ?_
      refine jv_iconst (v := 5) (jv_dk t_L_law (k := 733) rfl) (by decide) ?_
      refine jv_iadd (jv_dk t_L_law (k := 734) rfl) ?_
      refine jv_xI (jv_dk t_L_law (k := 735) rfl) (fun v212 => ?_)
      refine jv_callV (en' := jeI) (pv := jpI) (As := [.int (v208), .int (v209), .int (v210), .int (v211), .int (v212)]) (S := [.int (v206)]) (jv_dk t_L_law (k := 736) rfl) (fun _ => rfl) (Or.inl lk_L_136) me_X13_map mv_X13_map ⟨by decide, by decide⟩ rfl rfl rfl (Nat.le_of_ble_eq_true rfl) (P_X13_map X x2 v208 v209 v210 v211 v212 h207) (fun v213 h214 => ?_)
      show jv_O X M_L_law _ jeI 1236 [some (.ref (jv_ad X 13)), some (.ref (x1)), some (.ref (x2)), some (.ref (x3)), some (.int (x4)), none, none] [.int (v213), .int (v206)] h214 _
      refine jv_icmp_eq (tgt := 1929) (jv_dk t_L_law (k := 737) rfl) rfl (fun c215 => ?_) (fun c215 => ?_)
      · refine jv_iinc (v := 6) (L' := [some (.ref (jv_ad X 13)), some (.ref (x1)), some (.ref (x2)), some (.ref (x3)), some (.int (x4 + 6)), none, none]) (jv_dk t_L_law (k := 1203) rfl) rfl (by decide) rfl ?_
        refine jv_goto (tgt := 23) (jv_dk t_L_law (k := 1204) rfl) rfl ?_
        exact hR23 _ _ _ _ _ 
      · show jv_O _ _ _ _ 1239 _ _ _ _
        refine jv_iconst (v := 0) (jv_dk t_L_law (k := 738) rfl) (by decide) ?_
        exact jv_iret (ty := .boolean) (jv_dk t_L_law (k := 739) rfl) rfl rfl rfl
    rw [if_neg c27]
    by_cases c28 : (v10 &&& 63) = 17
    · rw [if_pos c28]
      refine jv_tbl (tgt := 1241) (jv_dk t_L_law (k := 24) rfl) (by rw [c28] <;> decide) (by rw [c28] <;> decide) (by rw [c28] <;> rfl) rfl ?_
      refine jv_aload_n (jv_dk t_L_law (k := 740) rfl) rfl rfl (Or.inr ⟨_, rfl⟩) ?_
      refine jv_aload_n (jv_dk t_L_law (k := 741) rfl) rfl rfl (Or.inr ⟨_, rfl⟩) ?_
      refine jv_iload (jv_dk t_L_law (k := 742) rfl) rfl ?_
      refine jv_iconst (v := 1) (jv_dk t_L_law (k := 743) rfl) (by decide) ?_
      refine jv_iadd (jv_dk t_L_law (k := 744) rfl) ?_
      refine jv_xI (jv_dk t_L_law (k := 745) rfl) (fun v192 => ?_)
      refine jv_aload_n (jv_dk t_L_law (k := 746) rfl) rfl rfl (Or.inr ⟨_, rfl⟩) ?_
      refine jv_iload (jv_dk t_L_law (k := 747) rfl) rfl ?_
      refine jv_iconst (v := 2) (jv_dk t_L_law (k := 748) rfl) (by decide) ?_
      refine jv_iadd (jv_dk t_L_law (k := 749) rfl) ?_
      refine jv_xI (jv_dk t_L_law (k := 750) rfl) (fun v193 => ?_)
      refine jv_callV (en' := jeI) (pv := jpI) (As := [.int (v192), .int (v193)]) (S := []) (jv_dk t_L_law (k := 751) rfl) (fun _ => rfl) (Or.inl lk_L_137) me_X12_become mv_X12_become ⟨by decide, by decide⟩ rfl rfl rfl (Nat.le_of_ble_eq_true rfl) (P_X12_become X x1 v192 v193 h) (fun v194 h195 => ?_)
      show jv_O X M_L_law _ jeI 1257 [some (.ref (jv_ad X 13)), some (.ref (x1)), some (.ref (x2)), some (.ref (x3)), some (.int (x4)), none, none] [.int (v194)] h195 _
      refine jv_aload_n (jv_dk t_L_law (k := 752) rfl) rfl rfl (Or.inr ⟨_, rfl⟩) ?_
      refine jv_aload_n (jv_dk t_L_law (k := 753) rfl) rfl rfl (Or.inr ⟨_, rfl⟩) ?_
      refine jv_iload (jv_dk t_L_law (k := 754) rfl) rfl ?_
      refine jv_iconst (v := 1) (jv_dk t_L_law (k := 755) rfl) (by decide) ?_
      refine jv_iadd (jv_dk t_L_law (k := 756) rfl) ?_
      refine jv_xI (jv_dk t_L_law (k := 757) rfl) (fun v196 => ?_)
      refine jv_aload_n (jv_dk t_L_law (k := 758) rfl) rfl rfl (Or.inr ⟨_, rfl⟩) ?_
      refine jv_iload (jv_dk t_L_law (k := 759) rfl) rfl ?_
      refine jv_iconst (v := 2) (jv_dk t_L_law (k := 760) rfl) (by decide) ?_
      refine jv_iadd (jv_dk t_L_law (k := 761) rfl) ?_
      refine jv_xI (jv_dk t_L_law (k := 762) rfl) (fun v197 => ?_)
      refine jv_callV (en' := jeI) (pv := jpI) (As := [.int (v196), .int (v197)]) (S := [.int (v194)]) (jv_dk t_L_law (k := 763) rfl) (fun _ => rfl) (Or.inl lk_L_140) me_X13_become mv_X13_become ⟨by decide, by decide⟩ rfl rfl rfl (Nat.le_of_ble_eq_true rfl) (P_X13_become X x2 v196 v197 h195) (fun v198 h199 => ?_)
      show jv_O X M_L_law _ jeI 1273 [some (.ref (jv_ad X 13)), some (.ref (x1)), some (.ref (x2)), some (.ref (x3)), some (.int (x4)), none, none] [.int (v198), .int (v194)] h199 _
      refine jv_icmp_eq (tgt := 1929) (jv_dk t_L_law (k := 764) rfl) rfl (fun c200 => ?_) (fun c200 => ?_)
      · refine jv_iinc (v := 6) (L' := [some (.ref (jv_ad X 13)), some (.ref (x1)), some (.ref (x2)), some (.ref (x3)), some (.int (x4 + 6)), none, none]) (jv_dk t_L_law (k := 1203) rfl) rfl (by decide) rfl ?_
        refine jv_goto (tgt := 23) (jv_dk t_L_law (k := 1204) rfl) rfl ?_
        exact hR23 _ _ _ _ _ 
      · show jv_O _ _ _ _ 1276 _ _ _ _
        refine jv_iconst (v := 0) (jv_dk t_L_law (k := 765) rfl) (by decide) ?_
        exact jv_iret (ty := .boolean) (jv_dk t_L_law (k := 766) rfl) rfl rfl rfl
    rw [if_neg c28]
    by_cases c29 : (v10 &&& 63) = 18
    · rw [if_pos c29]
      refine jv_tbl (tgt := 1278) (jv_dk t_L_law (k := 24) rfl) (by rw [c29] <;> decide) (by rw [c29] <;> decide) (by rw [c29] <;> rfl) rfl ?_
      refine jv_aload_n (jv_dk t_L_law (k := 767) rfl) rfl rfl (Or.inr ⟨_, rfl⟩) ?_
      refine jv_aload_n (jv_dk t_L_law (k := 768) rfl) rfl rfl (Or.inr ⟨_, rfl⟩) ?_
      refine jv_iload (jv_dk t_L_law (k := 769) rfl) rfl ?_
      refine jv_iconst (v := 1) (jv_dk t_L_law (k := 770) rfl) (by decide) ?_
      refine jv_iadd (jv_dk t_L_law (k := 771) rfl) ?_
      refine jv_xI (jv_dk t_L_law (k := 772) rfl) (fun v181 => ?_)
      refine jv_aload_n (jv_dk t_L_law (k := 773) rfl) rfl rfl (Or.inr ⟨_, rfl⟩) ?_
      refine jv_iload (jv_dk t_L_law (k := 774) rfl) rfl ?_
      refine jv_iconst (v := 2) (jv_dk t_L_law (k := 775) rfl) (by decide) ?_
      refine jv_iadd (jv_dk t_L_law (k := 776) rfl) ?_
      refine jv_xI (jv_dk t_L_law (k := 777) rfl) (fun v182 => ?_)
      refine jv_aload_n (jv_dk t_L_law (k := 778) rfl) rfl rfl (Or.inr ⟨_, rfl⟩) ?_
      refine jv_iload (jv_dk t_L_law (k := 779) rfl) rfl ?_
      refine jv_iconst (v := 3) (jv_dk t_L_law (k := 780) rfl) (by decide) ?_
      refine jv_iadd (jv_dk t_L_law (k := 781) rfl) ?_
      refine jv_xI (jv_dk t_L_law (k := 782) rfl) (fun v183 => ?_)
      refine jv_callV (en' := jeI) (pv := jpI) (As := [.int (v181), .int (v182), .int (v183)]) (S := []) (jv_dk t_L_law (k := 783) rfl) (fun _ => rfl) (Or.inl lk_L_141) me_X12_mount mv_X12_mount ⟨by decide, by decide⟩ rfl rfl rfl (Nat.le_of_ble_eq_true rfl) (P_X12_mount X x1 v181 v182 v183 h) (fun v184 h185 => ?_)
      show jv_O X M_L_law _ jeI 1300 [some (.ref (jv_ad X 13)), some (.ref (x1)), some (.ref (x2)), some (.ref (x3)), some (.int (x4)), none, none] [.int (v184)] h185 _
      refine jv_aload_n (jv_dk t_L_law (k := 784) rfl) rfl rfl (Or.inr ⟨_, rfl⟩) ?_
      refine jv_aload_n (jv_dk t_L_law (k := 785) rfl) rfl rfl (Or.inr ⟨_, rfl⟩) ?_
      refine jv_iload (jv_dk t_L_law (k := 786) rfl) rfl ?_
      refine jv_iconst (v := 1) (jv_dk t_L_law (k := 787) rfl) (by decide) ?_
      refine jv_iadd (jv_dk t_L_law (k := 788) rfl) ?_
      refine jv_xI (jv_dk t_L_law (k := 789) rfl) (fun v186 => ?_)
      refine jv_aload_n (jv_dk t_L_law (k := 790) rfl) rfl rfl (Or.inr ⟨_, rfl⟩) ?_
      refine jv_iload (jv_dk t_L_law (k := 791) rfl) rfl ?_
      refine jv_iconst (v := 2) (jv_dk t_L_law (k := 792) rfl) (by decide) ?_
      refine jv_iadd (jv_dk t_L_law (k := 793) rfl) ?_
      refine jv_xI (jv_dk t_L_law (k := 794) rfl) (fun v187 => ?_)
      refine jv_aload_n (jv_dk t_L_law (k := 795) rfl) rfl rfl (Or.inr ⟨_, rfl⟩) ?_
      refine jv_iload (jv_dk t_L_law (k := 796) rfl) rfl ?_
      refine jv_iconst (v := 3) (jv_dk t_L_law (k := 797) rfl) (by decide) ?_
      refine jv_iadd (jv_dk t_L_law (k := 798) rfl) ?_
      refine jv_xI (jv_dk t_L_law (k := 799) rfl) (fun v188 => ?_)
      refine jv_callV (en' := jeI) (pv := jpI) (As := [.int (v186), .int (v187), .int (v188)]) (S := [.int (v184)]) (jv_dk t_L_law (k := 800) rfl) (fun _ => rfl) (Or.inl lk_L_144) me_X13_mount mv_X13_mount ⟨by decide, by decide⟩ rfl rfl rfl (Nat.le_of_ble_eq_true rfl) (P_X13_mount X x2 v186 v187 v188 h185) (fun v189 h190 => ?_)
      show jv_O X M_L_law _ jeI 1322 [some (.ref (jv_ad X 13)), some (.ref (x1)), some (.ref (x2)), some (.ref (x3)), some (.int (x4)), none, none] [.int (v189), .int (v184)] h190 _
      refine jv_icmp_eq (tgt := 1929) (jv_dk t_L_law (k := 801) rfl) rfl (fun c191 => ?_) (fun c191 => ?_)
      · refine jv_iinc (v := 6) (L' := [some (.ref (jv_ad X 13)), some (.ref (x1)), some (.ref (x2)), some (.ref (x3)), some (.int (x4 + 6)), none, none]) (jv_dk t_L_law (k := 1203) rfl) rfl (by decide) rfl ?_
        refine jv_goto (tgt := 23) (jv_dk t_L_law (k := 1204) rfl) rfl ?_
        exact hR23 _ _ _ _ _ 
      · show jv_O _ _ _ _ 1325 _ _ _ _
        refine jv_iconst (v := 0) (jv_dk t_L_law (k := 802) rfl) (by decide) ?_
        exact jv_iret (ty := .boolean) (jv_dk t_L_law (k := 803) rfl) rfl rfl rfl
    rw [if_neg c29]
    by_cases c30 : (v10 &&& 63) = 19
    · rw [if_pos c30]
      refine jv_tbl (tgt := 1327) (jv_dk t_L_law (k := 24) rfl) (by rw [c30] <;> decide) (by rw [c30] <;> decide) (by rw [c30] <;> rfl) rfl ?_
      refine jv_aload_n (jv_dk t_L_law (k := 804) rfl) rfl rfl (Or.inr ⟨_, rfl⟩) ?_
      refine jv_aload_n (jv_dk t_L_law (k := 805) rfl) rfl rfl (Or.inr ⟨_, rfl⟩) ?_
      refine jv_iload (jv_dk t_L_law (k := 806) rfl) rfl ?_
      refine jv_iconst (v := 1) (jv_dk t_L_law (k := 807) rfl) (by decide) ?_
      refine jv_iadd (jv_dk t_L_law (k := 808) rfl) ?_
      refine jv_xI (jv_dk t_L_law (k := 809) rfl) (fun v174 => ?_)
      refine jv_callV (en' := jeI) (pv := jpI) (As := [.int (v174)]) (S := []) (jv_dk t_L_law (k := 810) rfl) (fun _ => rfl) (Or.inl lk_L_145) me_X12_share mv_X12_share ⟨by decide, by decide⟩ rfl rfl rfl (Nat.le_of_ble_eq_true rfl) (P_X12_share X x1 v174 h) (fun v175 h176 => ?_)
      show jv_O X M_L_law _ jeI 1337 [some (.ref (jv_ad X 13)), some (.ref (x1)), some (.ref (x2)), some (.ref (x3)), some (.int (x4)), none, none] [.int (v175)] h176 _
      refine jv_aload_n (jv_dk t_L_law (k := 811) rfl) rfl rfl (Or.inr ⟨_, rfl⟩) ?_
      refine jv_aload_n (jv_dk t_L_law (k := 812) rfl) rfl rfl (Or.inr ⟨_, rfl⟩) ?_
      refine jv_iload (jv_dk t_L_law (k := 813) rfl) rfl ?_
      refine jv_iconst (v := 1) (jv_dk t_L_law (k := 814) rfl) (by decide) ?_
      refine jv_iadd (jv_dk t_L_law (k := 815) rfl) ?_
      refine jv_xI (jv_dk t_L_law (k := 816) rfl) (fun v177 => ?_)
      refine jv_callV (en' := jeI) (pv := jpI) (As := [.int (v177)]) (S := [.int (v175)]) (jv_dk t_L_law (k := 817) rfl) (fun _ => rfl) (Or.inl lk_L_148) me_X13_share mv_X13_share ⟨by decide, by decide⟩ rfl rfl rfl (Nat.le_of_ble_eq_true rfl) (P_X13_share X x2 v177 h176) (fun v178 h179 => ?_)
      show jv_O X M_L_law _ jeI 1347 [some (.ref (jv_ad X 13)), some (.ref (x1)), some (.ref (x2)), some (.ref (x3)), some (.int (x4)), none, none] [.int (v178), .int (v175)] h179 _
      refine jv_icmp_eq (tgt := 1929) (jv_dk t_L_law (k := 818) rfl) rfl (fun c180 => ?_) (fun c180 => ?_)
      · refine jv_iinc (v := 6) (L' := [some (.ref (jv_ad X 13)), some (.ref (x1)), some (.ref (x2)), some (.ref (x3)), some (.int (x4 + 6)), none, none]) (jv_dk t_L_law (k := 1203) rfl) rfl (by decide) rfl ?_
        refine jv_goto (tgt := 23) (jv_dk t_L_law (k := 1204) rfl) rfl ?_
        exact hR23 _ _ _ _ _ 
      · show jv_O _ _ _ _ 1350 _ _ _ _
        refine jv_iconst (v := 0) (jv_dk t_L_law (k := 819) rfl) (by decide) ?_
        exact jv_iret (ty := .boolean) (jv_dk t_L_law (k := 820) rfl) rfl rfl rfl
    rw [if_neg c30]
    by_cases c31 : (v10 &&& 63) = 20
    · rw [if_pos c31]
      refine jv_tbl (tgt := 1352) (jv_dk t_L_law (k := 24) rfl) (by rw [c31] <;> decide) (by rw [c31] <;> decide) (by rw [c31] <;> rfl) rfl ?_
      refine jv_aload_n (jv_dk t_L_law (k := 821) rfl) rfl rfl (Or.inr ⟨_, rfl⟩) ?_
      refine jv_aload_n (jv_dk t_L_law (k := 822) rfl) rfl rfl (Or.inr ⟨_, rfl⟩) ?_
      refine jv_iload (jv_dk t_L_law (k := 823) rfl) rfl ?_
      refine jv_iconst (v := 1) (jv_dk t_L_law (k := 824) rfl) (by decide) ?_
      refine jv_iadd (jv_dk t_L_law (k := 825) rfl) ?_
      refine jv_xI (jv_dk t_L_law (k := 826) rfl) (fun v163 => ?_)
      refine jv_aload_n (jv_dk t_L_law (k := 827) rfl) rfl rfl (Or.inr ⟨_, rfl⟩) ?_
      refine jv_iload (jv_dk t_L_law (k := 828) rfl) rfl ?_
      refine jv_iconst (v := 2) (jv_dk t_L_law (k := 829) rfl) (by decide) ?_
      refine jv_iadd (jv_dk t_L_law (k := 830) rfl) ?_
      refine jv_xI (jv_dk t_L_law (k := 831) rfl) (fun v164 => ?_)
      refine jv_aload_n (jv_dk t_L_law (k := 832) rfl) rfl rfl (Or.inr ⟨_, rfl⟩) ?_
      refine jv_iload (jv_dk t_L_law (k := 833) rfl) rfl ?_
      refine jv_iconst (v := 3) (jv_dk t_L_law (k := 834) rfl) (by decide) ?_
      refine jv_iadd (jv_dk t_L_law (k := 835) rfl) ?_
      refine jv_xI (jv_dk t_L_law (k := 836) rfl) (fun v165 => ?_)
      refine jv_callV (en' := jeI) (pv := jpI) (As := [.int (v163), .int (v164), .int (v165)]) (S := []) (jv_dk t_L_law (k := 837) rfl) (fun _ => rfl) (Or.inl lk_L_149) me_X12_enter mv_X12_enter ⟨by decide, by decide⟩ rfl rfl rfl (Nat.le_of_ble_eq_true rfl) (P_X12_enter X x1 v163 v164 v165 h) (fun v166 h167 => ?_)
      show jv_O X M_L_law _ jeI 1374 [some (.ref (jv_ad X 13)), some (.ref (x1)), some (.ref (x2)), some (.ref (x3)), some (.int (x4)), none, none] [.int (v166)] h167 _
      refine jv_aload_n (jv_dk t_L_law (k := 838) rfl) rfl rfl (Or.inr ⟨_, rfl⟩) ?_
      refine jv_aload_n (jv_dk t_L_law (k := 839) rfl) rfl rfl (Or.inr ⟨_, rfl⟩) ?_
      refine jv_iload (jv_dk t_L_law (k := 840) rfl) rfl ?_
      refine jv_iconst (v := 1) (jv_dk t_L_law (k := 841) rfl) (by decide) ?_
      refine jv_iadd (jv_dk t_L_law (k := 842) rfl) ?_
      refine jv_xI (jv_dk t_L_law (k := 843) rfl) (fun v168 => ?_)
      refine jv_aload_n (jv_dk t_L_law (k := 844) rfl) rfl rfl (Or.inr ⟨_, rfl⟩) ?_
      refine jv_iload (jv_dk t_L_law (k := 845) rfl) rfl ?_
      refine jv_iconst (v := 2) (jv_dk t_L_law (k := 846) rfl) (by decide) ?_
      refine jv_iadd (jv_dk t_L_law (k := 847) rfl) ?_
      refine jv_xI (jv_dk t_L_law (k := 848) rfl) (fun v169 => ?_)
      refine jv_aload_n (jv_dk t_L_law (k := 849) rfl) rfl rfl (Or.inr ⟨_, rfl⟩) ?_
      refine jv_iload (jv_dk t_L_law (k := 850) rfl) rfl ?_
      refine jv_iconst (v := 3) (jv_dk t_L_law (k := 851) rfl) (by decide) ?_
      refine jv_iadd (jv_dk t_L_law (k := 852) rfl) ?_
      refine jv_xI (jv_dk t_L_law (k := 853) rfl) (fun v170 => ?_)
      refine jv_callV (en' := jeI) (pv := jpI) (As := [.int (v168), .int (v169), .int (v170)]) (S := [.int (v166)]) (jv_dk t_L_law (k := 854) rfl) (fun _ => rfl) (Or.inl lk_L_152) me_X13_enter mv_X13_enter ⟨by decide, by decide⟩ rfl rfl rfl (Nat.le_of_ble_eq_true rfl) (P_X13_enter X x2 v168 v169 v170 h167) (fun v171 h172 => ?_)
      show jv_O X M_L_law _ jeI 1396 [some (.ref (jv_ad X 13)), some (.ref (x1)), some (.ref (x2)), some (.ref (x3)), some (.int (x4)), none, none] [.int (v171), .int (v166)] h172 _
      refine jv_icmp_eq (tgt := 1929) (jv_dk t_L_law (k := 855) rfl) rfl (fun c173 => ?_) (fun c173 => ?_)
      · refine jv_iinc (v := 6) (L' := [some (.ref (jv_ad X 13)), some (.ref (x1)), some (.ref (x2)), some (.ref (x3)), some (.int (x4 + 6)), none, none]) (jv_dk t_L_law (k := 1203) rfl) rfl (by decide) rfl ?_
        refine jv_goto (tgt := 23) (jv_dk t_L_law (k := 1204) rfl) rfl ?_
        exact hR23 _ _ _ _ _ 
      · show jv_O _ _ _ _ 1399 _ _ _ _
        refine jv_iconst (v := 0) (jv_dk t_L_law (k := 856) rfl) (by decide) ?_
        exact jv_iret (ty := .boolean) (jv_dk t_L_law (k := 857) rfl) rfl rfl rfl
    rw [if_neg c31]
    by_cases c32 : (v10 &&& 63) = 21
    · rw [if_pos c32]
      refine jv_tbl (tgt := 1401) (jv_dk t_L_law (k := 24) rfl) (by rw [c32] <;> decide) (by rw [c32] <;> decide) (by rw [c32] <;> rfl) rfl ?_
      refine jv_aload_n (jv_dk t_L_law (k := 858) rfl) rfl rfl (Or.inr ⟨_, rfl⟩) ?_
      refine jv_aload_n (jv_dk t_L_law (k := 859) rfl) rfl rfl (Or.inr ⟨_, rfl⟩) ?_
      refine jv_iload (jv_dk t_L_law (k := 860) rfl) rfl ?_
      refine jv_iconst (v := 1) (jv_dk t_L_law (k := 861) rfl) (by decide) ?_
      refine jv_iadd (jv_dk t_L_law (k := 862) rfl) ?_
      refine jv_xI (jv_dk t_L_law (k := 863) rfl) (fun v156 => ?_)
      refine jv_callV (en' := jeI) (pv := jpI) (As := [.int (v156)]) (S := []) (jv_dk t_L_law (k := 864) rfl) (fun _ => rfl) (Or.inl lk_L_153) me_X12_end mv_X12_end ⟨by decide, by decide⟩ rfl rfl rfl (Nat.le_of_ble_eq_true rfl) (P_X12_end X x1 v156 h) (fun v157 h158 => ?_)
      show jv_O X M_L_law _ jeI 1411 [some (.ref (jv_ad X 13)), some (.ref (x1)), some (.ref (x2)), some (.ref (x3)), some (.int (x4)), none, none] [.int (v157)] h158 _
      refine jv_aload_n (jv_dk t_L_law (k := 865) rfl) rfl rfl (Or.inr ⟨_, rfl⟩) ?_
      refine jv_aload_n (jv_dk t_L_law (k := 866) rfl) rfl rfl (Or.inr ⟨_, rfl⟩) ?_
      refine jv_iload (jv_dk t_L_law (k := 867) rfl) rfl ?_
      refine jv_iconst (v := 1) (jv_dk t_L_law (k := 868) rfl) (by decide) ?_
      refine jv_iadd (jv_dk t_L_law (k := 869) rfl) ?_
      refine jv_xI (jv_dk t_L_law (k := 870) rfl) (fun v159 => ?_)
      refine jv_callV (en' := jeI) (pv := jpI) (As := [.int (v159)]) (S := [.int (v157)]) (jv_dk t_L_law (k := 871) rfl) (fun _ => rfl) (Or.inl lk_L_156) me_X13_end mv_X13_end ⟨by decide, by decide⟩ rfl rfl rfl (Nat.le_of_ble_eq_true rfl) (P_X13_end X x2 v159 h158) (fun v160 h161 => ?_)
      show jv_O X M_L_law _ jeI 1421 [some (.ref (jv_ad X 13)), some (.ref (x1)), some (.ref (x2)), some (.ref (x3)), some (.int (x4)), none, none] [.int (v160), .int (v157)] h161 _
      refine jv_icmp_eq (tgt := 1929) (jv_dk t_L_law (k := 872) rfl) rfl (fun c162 => ?_) (fun c162 => ?_)
      · refine jv_iinc (v := 6) (L' := [some (.ref (jv_ad X 13)), some (.ref (x1)), some (.ref (x2)), some (.ref (x3)), some (.int (x4 + 6)), none, none]) (jv_dk t_L_law (k := 1203) rfl) rfl (by decide) rfl ?_
        refine jv_goto (tgt := 23) (jv_dk t_L_law (k := 1204) rfl) rfl ?_
        exact hR23 _ _ _ _ _ 
      · show jv_O _ _ _ _ 1424 _ _ _ _
        refine jv_iconst (v := 0) (jv_dk t_L_law (k := 873) rfl) (by decide) ?_
        exact jv_iret (ty := .boolean) (jv_dk t_L_law (k := 874) rfl) rfl rfl rfl
    rw [if_neg c32]
    by_cases c33 : (v10 &&& 63) = 22
    · rw [if_pos c33]
      refine jv_tbl (tgt := 1426) (jv_dk t_L_law (k := 24) rfl) (by rw [c33] <;> decide) (by rw [c33] <;> decide) (by rw [c33] <;> rfl) rfl ?_
      refine jv_aload_n (jv_dk t_L_law (k := 875) rfl) rfl rfl (Or.inr ⟨_, rfl⟩) ?_
      refine jv_aload_n (jv_dk t_L_law (k := 876) rfl) rfl rfl (Or.inr ⟨_, rfl⟩) ?_
      refine jv_iload (jv_dk t_L_law (k := 877) rfl) rfl ?_
      refine jv_iconst (v := 1) (jv_dk t_L_law (k := 878) rfl) (by decide) ?_
      refine jv_iadd (jv_dk t_L_law (k := 879) rfl) ?_
      refine jv_xI (jv_dk t_L_law (k := 880) rfl) (fun v147 => ?_)
      refine jv_aload_n (jv_dk t_L_law (k := 881) rfl) rfl rfl (Or.inr ⟨_, rfl⟩) ?_
      refine jv_iload (jv_dk t_L_law (k := 882) rfl) rfl ?_
      refine jv_iconst (v := 2) (jv_dk t_L_law (k := 883) rfl) (by decide) ?_
      refine jv_iadd (jv_dk t_L_law (k := 884) rfl) ?_
      refine jv_xI (jv_dk t_L_law (k := 885) rfl) (fun v148 => ?_)
      refine jv_callV (en' := jeI) (pv := jpI) (As := [.int (v147), .int (v148)]) (S := []) (jv_dk t_L_law (k := 886) rfl) (fun _ => rfl) (Or.inl lk_L_157) me_X12_kill mv_X12_kill ⟨by decide, by decide⟩ rfl rfl rfl (Nat.le_of_ble_eq_true rfl) (P_X12_kill X x1 v147 v148 h) (fun v149 h150 => ?_)
      show jv_O X M_L_law _ jeI 1442 [some (.ref (jv_ad X 13)), some (.ref (x1)), some (.ref (x2)), some (.ref (x3)), some (.int (x4)), none, none] [.int (v149)] h150 _
      refine jv_aload_n (jv_dk t_L_law (k := 887) rfl) rfl rfl (Or.inr ⟨_, rfl⟩) ?_
      refine jv_aload_n (jv_dk t_L_law (k := 888) rfl) rfl rfl (Or.inr ⟨_, rfl⟩) ?_
      refine jv_iload (jv_dk t_L_law (k := 889) rfl) rfl ?_
      refine jv_iconst (v := 1) (jv_dk t_L_law (k := 890) rfl) (by decide) ?_
      refine jv_iadd (jv_dk t_L_law (k := 891) rfl) ?_
      refine jv_xI (jv_dk t_L_law (k := 892) rfl) (fun v151 => ?_)
      refine jv_aload_n (jv_dk t_L_law (k := 893) rfl) rfl rfl (Or.inr ⟨_, rfl⟩) ?_
      refine jv_iload (jv_dk t_L_law (k := 894) rfl) rfl ?_
      refine jv_iconst (v := 2) (jv_dk t_L_law (k := 895) rfl) (by decide) ?_
      refine jv_iadd (jv_dk t_L_law (k := 896) rfl) ?_
      refine jv_xI (jv_dk t_L_law (k := 897) rfl) (fun v152 => ?_)
      refine jv_callV (en' := jeI) (pv := jpI) (As := [.int (v151), .int (v152)]) (S := [.int (v149)]) (jv_dk t_L_law (k := 898) rfl) (fun _ => rfl) (Or.inl lk_L_160) me_X13_kill mv_X13_kill ⟨by decide, by decide⟩ rfl rfl rfl (Nat.le_of_ble_eq_true rfl) (P_X13_kill X x2 v151 v152 h150) (fun v153 h154 => ?_)
      show jv_O X M_L_law _ jeI 1458 [some (.ref (jv_ad X 13)), some (.ref (x1)), some (.ref (x2)), some (.ref (x3)), some (.int (x4)), none, none] [.int (v153), .int (v149)] h154 _
      refine jv_icmp_eq (tgt := 1929) (jv_dk t_L_law (k := 899) rfl) rfl (fun c155 => ?_) (fun c155 => ?_)
      · refine jv_iinc (v := 6) (L' := [some (.ref (jv_ad X 13)), some (.ref (x1)), some (.ref (x2)), some (.ref (x3)), some (.int (x4 + 6)), none, none]) (jv_dk t_L_law (k := 1203) rfl) rfl (by decide) rfl ?_
        refine jv_goto (tgt := 23) (jv_dk t_L_law (k := 1204) rfl) rfl ?_
        exact hR23 _ _ _ _ _ 
      · show jv_O _ _ _ _ 1461 _ _ _ _
        refine jv_iconst (v := 0) (jv_dk t_L_law (k := 900) rfl) (by decide) ?_
        exact jv_iret (ty := .boolean) (jv_dk t_L_law (k := 901) rfl) rfl rfl rfl
    rw [if_neg c33]
    by_cases c34 : (v10 &&& 63) = 23
    · rw [if_pos c34]
      refine jv_tbl (tgt := 1463) (jv_dk t_L_law (k := 24) rfl) (by rw [c34] <;> decide) (by rw [c34] <;> decide) (by rw [c34] <;> rfl) rfl ?_
      refine jv_aload_n (jv_dk t_L_law (k := 902) rfl) rfl rfl (Or.inr ⟨_, rfl⟩) ?_
      refine jv_callV (en' := jeI) (pv := jpI) (As := []) (S := []) (jv_dk t_L_law (k := 903) rfl) (fun _ => rfl) (Or.inl lk_L_161) me_X12_undo mv_X12_undo ⟨by decide, by decide⟩ rfl rfl rfl (Nat.le_of_ble_eq_true rfl) (P_X12_undo X x1 h) (fun v142 h143 => ?_)
      show jv_O X M_L_law _ jeI 1467 [some (.ref (jv_ad X 13)), some (.ref (x1)), some (.ref (x2)), some (.ref (x3)), some (.int (x4)), none, none] [.int (v142)] h143 _
      refine jv_aload_n (jv_dk t_L_law (k := 904) rfl) rfl rfl (Or.inr ⟨_, rfl⟩) ?_
      refine jv_callV (en' := jeI) (pv := jpI) (As := []) (S := [.int (v142)]) (jv_dk t_L_law (k := 905) rfl) (fun _ => rfl) (Or.inl lk_L_164) me_X13_undo mv_X13_undo ⟨by decide, by decide⟩ rfl rfl rfl (Nat.le_of_ble_eq_true rfl) (P_X13_undo X x2 h143) (fun v144 h145 => ?_)
      show jv_O X M_L_law _ jeI 1471 [some (.ref (jv_ad X 13)), some (.ref (x1)), some (.ref (x2)), some (.ref (x3)), some (.int (x4)), none, none] [.int (v144), .int (v142)] h145 _
      refine jv_icmp_eq (tgt := 1929) (jv_dk t_L_law (k := 906) rfl) rfl (fun c146 => ?_) (fun c146 => ?_)
      · refine jv_iinc (v := 6) (L' := [some (.ref (jv_ad X 13)), some (.ref (x1)), some (.ref (x2)), some (.ref (x3)), some (.int (x4 + 6)), none, none]) (jv_dk t_L_law (k := 1203) rfl) rfl (by decide) rfl ?_
        refine jv_goto (tgt := 23) (jv_dk t_L_law (k := 1204) rfl) rfl ?_
        exact hR23 _ _ _ _ _ 
      · show jv_O _ _ _ _ 1474 _ _ _ _
        refine jv_iconst (v := 0) (jv_dk t_L_law (k := 907) rfl) (by decide) ?_
        exact jv_iret (ty := .boolean) (jv_dk t_L_law (k := 908) rfl) rfl rfl rfl
    rw [if_neg c34]
    by_cases c35 : (v10 &&& 63) = 24
    · rw [if_pos c35]
      refine jv_tbl (tgt := 1476) (jv_dk t_L_law (k := 24) rfl) (by rw [c35] <;> decide) (by rw [c35] <;> decide) (by rw [c35] <;> rfl) rfl ?_
      refine jv_aload_n (jv_dk t_L_law (k := 909) rfl) rfl rfl (Or.inr ⟨_, rfl⟩) ?_
      refine jv_aload_n (jv_dk t_L_law (k := 910) rfl) rfl rfl (Or.inr ⟨_, rfl⟩) ?_
      refine jv_iload (jv_dk t_L_law (k := 911) rfl) rfl ?_
      refine jv_iconst (v := 1) (jv_dk t_L_law (k := 912) rfl) (by decide) ?_
      refine jv_iadd (jv_dk t_L_law (k := 913) rfl) ?_
      refine jv_xI (jv_dk t_L_law (k := 914) rfl) (fun v128 => ?_)
      refine jv_aload_n (jv_dk t_L_law (k := 915) rfl) rfl rfl (Or.inr ⟨_, rfl⟩) ?_
      refine jv_iload (jv_dk t_L_law (k := 916) rfl) rfl ?_
      refine jv_iconst (v := 2) (jv_dk t_L_law (k := 917) rfl) (by decide) ?_
      refine jv_iadd (jv_dk t_L_law (k := 918) rfl) ?_
      refine jv_xI (jv_dk t_L_law (k := 919) rfl) (fun v129 => ?_)
      refine jv_aload_n (jv_dk t_L_law (k := 920) rfl) rfl rfl (Or.inr ⟨_, rfl⟩) ?_
      refine jv_callH (en' := jeI) (pv := jpI) (As := [.ref (x1), .int (v128), .int (v129), .ref (x3)]) (S := []) (jv_dk t_L_law (k := 921) rfl) (fun _ => rfl) lk_L_165 me_L_set ms_L_set ⟨by decide, by decide⟩ rfl rfl (Nat.le_of_ble_eq_true rfl) (P_L_set X x1 v128 v129 x3 h) (fun v130 h131 => ?_)
      show jv_O X M_L_law _ jeI 1493 [some (.ref (jv_ad X 13)), some (.ref (x1)), some (.ref (x2)), some (.ref (x3)), some (.int (x4)), none, none] [.int (v130)] h131 _
      refine jv_istore (L' := [some (.ref (jv_ad X 13)), some (.ref (x1)), some (.ref (x2)), some (.ref (x3)), some (.int (x4)), some (.int (v130)), none]) (jv_dk t_L_law (k := 922) rfl) (Nat.le_of_ble_eq_true rfl) rfl ?_
      refine jv_aload_n (jv_dk t_L_law (k := 923) rfl) rfl rfl (Or.inr ⟨_, rfl⟩) ?_
      refine jv_aload_n (jv_dk t_L_law (k := 924) rfl) rfl rfl (Or.inr ⟨_, rfl⟩) ?_
      refine jv_iload (jv_dk t_L_law (k := 925) rfl) rfl ?_
      refine jv_iconst (v := 1) (jv_dk t_L_law (k := 926) rfl) (by decide) ?_
      refine jv_iadd (jv_dk t_L_law (k := 927) rfl) ?_
      refine jv_xI (jv_dk t_L_law (k := 928) rfl) (fun v132 => ?_)
      refine jv_aload_n (jv_dk t_L_law (k := 929) rfl) rfl rfl (Or.inr ⟨_, rfl⟩) ?_
      refine jv_iload (jv_dk t_L_law (k := 930) rfl) rfl ?_
      refine jv_iconst (v := 2) (jv_dk t_L_law (k := 931) rfl) (by decide) ?_
      refine jv_iadd (jv_dk t_L_law (k := 932) rfl) ?_
      refine jv_xI (jv_dk t_L_law (k := 933) rfl) (fun v133 => ?_)
      refine jv_callV (en' := jeI) (pv := jpI) (As := [.int (v132), .int (v133)]) (S := []) (jv_dk t_L_law (k := 934) rfl) (fun _ => rfl) (Or.inl lk_L_167) me_X13_set mv_X13_set ⟨by decide, by decide⟩ rfl rfl rfl (Nat.le_of_ble_eq_true rfl) (P_X13_set X x2 v132 v133 h131) (fun v134 h135 => ?_)
      show jv_O X M_L_law _ jeI 1511 [some (.ref (jv_ad X 13)), some (.ref (x1)), some (.ref (x2)), some (.ref (x3)), some (.int (x4)), some (.int (v130)), none] [.int (v134)] h135 _
      refine jv_istore (L' := [some (.ref (jv_ad X 13)), some (.ref (x1)), some (.ref (x2)), some (.ref (x3)), some (.int (x4)), some (.int (v130)), some (.int (v134))]) (jv_dk t_L_law (k := 935) rfl) (Nat.le_of_ble_eq_true rfl) rfl ?_
      refine jv_aload_n (jv_dk t_L_law (k := 936) rfl) rfl rfl (Or.inr ⟨_, rfl⟩) ?_
      refine jv_callV (en' := jeI) (pv := jpI) (As := []) (S := []) (jv_dk t_L_law (k := 937) rfl) (fun _ => rfl) (Or.inl lk_L_82) me_X13_thrown mv_X13_thrown ⟨by decide, by decide⟩ rfl rfl rfl (Nat.le_of_ble_eq_true rfl) (P_X13_thrown X x2 h135) (fun v136 h137 => ?_)
      show jv_O X M_L_law _ jeI 1517 [some (.ref (jv_ad X 13)), some (.ref (x1)), some (.ref (x2)), some (.ref (x3)), some (.int (x4)), some (.int (v130)), some (.int (v134))] [.int (v136)] h137 _
      refine jv_iload (jv_dk t_L_law (k := 938) rfl) rfl ?_
      refine jv_icmp_eq (tgt := 1524) (jv_dk t_L_law (k := 939) rfl) rfl (fun c138 => ?_) (fun c138 => ?_)
      · refine jv_iload (jv_dk t_L_law (k := 942) rfl) rfl ?_
        refine jv_if_ne (tgt := 1541) (jv_dk t_L_law (k := 943) rfl) rfl (fun c139 => ?_) (fun c139 => ?_)
        · refine jv_goto (tgt := 1929) (jv_dk t_L_law (k := 953) rfl) rfl ?_
          refine jv_iinc (v := 6) (L' := [some (.ref (jv_ad X 13)), some (.ref (x1)), some (.ref (x2)), some (.ref (x3)), some (.int (x4 + 6)), some (.int (v130)), some (.int (v134))]) (jv_dk t_L_law (k := 1203) rfl) rfl (by decide) rfl ?_
          refine jv_goto (tgt := 23) (jv_dk t_L_law (k := 1204) rfl) rfl ?_
          refine jv_le_row (jv_le_s (jv_le_s (jv_le_s (jv_le_s (jv_le_s (jv_le_n (jv_le_n (jv_le_nil)))))))) ?_
          exact hR23 _ _ _ _ _ 
        · show jv_O _ _ _ _ 1529 _ _ _ _
          refine jv_aload_n (jv_dk t_L_law (k := 944) rfl) rfl rfl (Or.inr ⟨_, rfl⟩) ?_
          refine jv_iconst (v := 0) (jv_dk t_L_law (k := 945) rfl) (by decide) ?_
          refine jv_laload (jv_dk t_L_law (k := 946) rfl) (fun v140 => ?_)
          refine jv_iload (jv_dk t_L_law (k := 947) rfl) rfl ?_
          refine jv_i2l (jv_dk t_L_law (k := 948) rfl) ?_
          refine jv_lcmp (jv_dk t_L_law (k := 949) rfl) ?_
          refine jv_if_eq (tgt := 1541) (jv_dk t_L_law (k := 950) rfl) rfl (fun c141 => ?_) (fun c141 => ?_)
          · refine jv_goto (tgt := 1929) (jv_dk t_L_law (k := 953) rfl) rfl ?_
            refine jv_iinc (v := 6) (L' := [some (.ref (jv_ad X 13)), some (.ref (x1)), some (.ref (x2)), some (.ref (x3)), some (.int (x4 + 6)), some (.int (v130)), some (.int (v134))]) (jv_dk t_L_law (k := 1203) rfl) rfl (by decide) rfl ?_
            refine jv_goto (tgt := 23) (jv_dk t_L_law (k := 1204) rfl) rfl ?_
            refine jv_le_row (jv_le_s (jv_le_s (jv_le_s (jv_le_s (jv_le_s (jv_le_n (jv_le_n (jv_le_nil)))))))) ?_
            exact hR23 _ _ _ _ _ 
          · show jv_O _ _ _ _ 1539 _ _ _ _
            refine jv_iconst (v := 0) (jv_dk t_L_law (k := 951) rfl) (by decide) ?_
            exact jv_iret (ty := .boolean) (jv_dk t_L_law (k := 952) rfl) rfl rfl rfl
      · show jv_O _ _ _ _ 1522 _ _ _ _
        refine jv_iconst (v := 0) (jv_dk t_L_law (k := 940) rfl) (by decide) ?_
        exact jv_iret (ty := .boolean) (jv_dk t_L_law (k := 941) rfl) rfl rfl rfl
    rw [if_neg c35]
    by_cases c36 : (v10 &&& 63) = 25
    · rw [if_pos c36]
      refine jv_tbl (tgt := 1544) (jv_dk t_L_law (k := 24) rfl) (by rw [c36] <;> decide) (by rw [c36] <;> decide) (by rw [c36] <;> rfl) rfl ?_
      refine jv_aload_n (jv_dk t_L_law (k := 954) rfl) rfl rfl (Or.inr ⟨_, rfl⟩) ?_
      refine jv_aload_n (jv_dk t_L_law (k := 955) rfl) rfl rfl (Or.inr ⟨_, rfl⟩) ?_
      refine jv_iload (jv_dk t_L_law (k := 956) rfl) rfl ?_
      refine jv_iconst (v := 1) (jv_dk t_L_law (k := 957) rfl) (by decide) ?_
      refine jv_iadd (jv_dk t_L_law (k := 958) rfl) ?_
      refine jv_xI (jv_dk t_L_law (k := 959) rfl) (fun v114 => ?_)
      refine jv_aload_n (jv_dk t_L_law (k := 960) rfl) rfl rfl (Or.inr ⟨_, rfl⟩) ?_
      refine jv_iload (jv_dk t_L_law (k := 961) rfl) rfl ?_
      refine jv_iconst (v := 2) (jv_dk t_L_law (k := 962) rfl) (by decide) ?_
      refine jv_iadd (jv_dk t_L_law (k := 963) rfl) ?_
      refine jv_xI (jv_dk t_L_law (k := 964) rfl) (fun v115 => ?_)
      refine jv_aload_n (jv_dk t_L_law (k := 965) rfl) rfl rfl (Or.inr ⟨_, rfl⟩) ?_
      refine jv_callH (en' := jeI) (pv := jpI) (As := [.ref (x1), .int (v114), .int (v115), .ref (x3)]) (S := []) (jv_dk t_L_law (k := 966) rfl) (fun _ => rfl) lk_L_168 me_L_shared ms_L_shared ⟨by decide, by decide⟩ rfl rfl (Nat.le_of_ble_eq_true rfl) (P_L_shared X x1 v114 v115 x3 h) (fun v116 h117 => ?_)
      show jv_O X M_L_law _ jeI 1561 [some (.ref (jv_ad X 13)), some (.ref (x1)), some (.ref (x2)), some (.ref (x3)), some (.int (x4)), none, none] [.int (v116)] h117 _
      refine jv_istore (L' := [some (.ref (jv_ad X 13)), some (.ref (x1)), some (.ref (x2)), some (.ref (x3)), some (.int (x4)), some (.int (v116)), none]) (jv_dk t_L_law (k := 967) rfl) (Nat.le_of_ble_eq_true rfl) rfl ?_
      refine jv_aload_n (jv_dk t_L_law (k := 968) rfl) rfl rfl (Or.inr ⟨_, rfl⟩) ?_
      refine jv_aload_n (jv_dk t_L_law (k := 969) rfl) rfl rfl (Or.inr ⟨_, rfl⟩) ?_
      refine jv_iload (jv_dk t_L_law (k := 970) rfl) rfl ?_
      refine jv_iconst (v := 1) (jv_dk t_L_law (k := 971) rfl) (by decide) ?_
      refine jv_iadd (jv_dk t_L_law (k := 972) rfl) ?_
      refine jv_xI (jv_dk t_L_law (k := 973) rfl) (fun v118 => ?_)
      refine jv_aload_n (jv_dk t_L_law (k := 974) rfl) rfl rfl (Or.inr ⟨_, rfl⟩) ?_
      refine jv_iload (jv_dk t_L_law (k := 975) rfl) rfl ?_
      refine jv_iconst (v := 2) (jv_dk t_L_law (k := 976) rfl) (by decide) ?_
      refine jv_iadd (jv_dk t_L_law (k := 977) rfl) ?_
      refine jv_xI (jv_dk t_L_law (k := 978) rfl) (fun v119 => ?_)
      refine jv_callV (en' := jeI) (pv := jpI) (As := [.int (v118), .int (v119)]) (S := []) (jv_dk t_L_law (k := 979) rfl) (fun _ => rfl) (Or.inl lk_L_170) me_X13_shared mv_X13_shared ⟨by decide, by decide⟩ rfl rfl rfl (Nat.le_of_ble_eq_true rfl) (P_X13_shared X x2 v118 v119 h117) (fun v120 h121 => ?_)
      show jv_O X M_L_law _ jeI 1579 [some (.ref (jv_ad X 13)), some (.ref (x1)), some (.ref (x2)), some (.ref (x3)), some (.int (x4)), some (.int (v116)), none] [.int (v120)] h121 _
      refine jv_istore (L' := [some (.ref (jv_ad X 13)), some (.ref (x1)), some (.ref (x2)), some (.ref (x3)), some (.int (x4)), some (.int (v116)), some (.int (v120))]) (jv_dk t_L_law (k := 980) rfl) (Nat.le_of_ble_eq_true rfl) rfl ?_
      refine jv_aload_n (jv_dk t_L_law (k := 981) rfl) rfl rfl (Or.inr ⟨_, rfl⟩) ?_
      refine jv_callV (en' := jeI) (pv := jpI) (As := []) (S := []) (jv_dk t_L_law (k := 982) rfl) (fun _ => rfl) (Or.inl lk_L_82) me_X13_thrown mv_X13_thrown ⟨by decide, by decide⟩ rfl rfl rfl (Nat.le_of_ble_eq_true rfl) (P_X13_thrown X x2 h121) (fun v122 h123 => ?_)
      show jv_O X M_L_law _ jeI 1585 [some (.ref (jv_ad X 13)), some (.ref (x1)), some (.ref (x2)), some (.ref (x3)), some (.int (x4)), some (.int (v116)), some (.int (v120))] [.int (v122)] h123 _
      refine jv_iload (jv_dk t_L_law (k := 983) rfl) rfl ?_
      refine jv_icmp_eq (tgt := 1592) (jv_dk t_L_law (k := 984) rfl) rfl (fun c124 => ?_) (fun c124 => ?_)
      · refine jv_iload (jv_dk t_L_law (k := 987) rfl) rfl ?_
        refine jv_if_ne (tgt := 1609) (jv_dk t_L_law (k := 988) rfl) rfl (fun c125 => ?_) (fun c125 => ?_)
        · refine jv_goto (tgt := 1929) (jv_dk t_L_law (k := 998) rfl) rfl ?_
          refine jv_iinc (v := 6) (L' := [some (.ref (jv_ad X 13)), some (.ref (x1)), some (.ref (x2)), some (.ref (x3)), some (.int (x4 + 6)), some (.int (v116)), some (.int (v120))]) (jv_dk t_L_law (k := 1203) rfl) rfl (by decide) rfl ?_
          refine jv_goto (tgt := 23) (jv_dk t_L_law (k := 1204) rfl) rfl ?_
          refine jv_le_row (jv_le_s (jv_le_s (jv_le_s (jv_le_s (jv_le_s (jv_le_n (jv_le_n (jv_le_nil)))))))) ?_
          exact hR23 _ _ _ _ _ 
        · show jv_O _ _ _ _ 1597 _ _ _ _
          refine jv_aload_n (jv_dk t_L_law (k := 989) rfl) rfl rfl (Or.inr ⟨_, rfl⟩) ?_
          refine jv_iconst (v := 0) (jv_dk t_L_law (k := 990) rfl) (by decide) ?_
          refine jv_laload (jv_dk t_L_law (k := 991) rfl) (fun v126 => ?_)
          refine jv_iload (jv_dk t_L_law (k := 992) rfl) rfl ?_
          refine jv_i2l (jv_dk t_L_law (k := 993) rfl) ?_
          refine jv_lcmp (jv_dk t_L_law (k := 994) rfl) ?_
          refine jv_if_eq (tgt := 1609) (jv_dk t_L_law (k := 995) rfl) rfl (fun c127 => ?_) (fun c127 => ?_)
          · refine jv_goto (tgt := 1929) (jv_dk t_L_law (k := 998) rfl) rfl ?_
            refine jv_iinc (v := 6) (L' := [some (.ref (jv_ad X 13)), some (.ref (x1)), some (.ref (x2)), some (.ref (x3)), some (.int (x4 + 6)), some (.int (v116)), some (.int (v120))]) (jv_dk t_L_law (k := 1203) rfl) rfl (by decide) rfl ?_
            refine jv_goto (tgt := 23) (jv_dk t_L_law (k := 1204) rfl) rfl ?_
            refine jv_le_row (jv_le_s (jv_le_s (jv_le_s (jv_le_s (jv_le_s (jv_le_n (jv_le_n (jv_le_nil)))))))) ?_
            exact hR23 _ _ _ _ _ 
          · show jv_O _ _ _ _ 1607 _ _ _ _
            refine jv_iconst (v := 0) (jv_dk t_L_law (k := 996) rfl) (by decide) ?_
            exact jv_iret (ty := .boolean) (jv_dk t_L_law (k := 997) rfl) rfl rfl rfl
      · show jv_O _ _ _ _ 1590 _ _ _ _
        refine jv_iconst (v := 0) (jv_dk t_L_law (k := 985) rfl) (by decide) ?_
        exact jv_iret (ty := .boolean) (jv_dk t_L_law (k := 986) rfl) rfl rfl rfl
    rw [if_neg c36]
    by_cases c37 : (v10 &&& 63) = 26
    · rw [if_pos c37]
      refine jv_tbl (tgt := 1612) (jv_dk t_L_law (k := 24) rfl) (by rw [c37] <;> decide) (by rw [c37] <;> decide) (by rw [c37] <;> rfl) rfl ?_
      refine jv_aload_n (jv_dk t_L_law (k := 999) rfl) rfl rfl (Or.inr ⟨_, rfl⟩) ?_
      refine jv_aload_n (jv_dk t_L_law (k := 1000) rfl) rfl rfl (Or.inr ⟨_, rfl⟩) ?_
      refine jv_iload (jv_dk t_L_law (k := 1001) rfl) rfl ?_
      refine jv_iconst (v := 1) (jv_dk t_L_law (k := 1002) rfl) (by decide) ?_
      refine jv_iadd (jv_dk t_L_law (k := 1003) rfl) ?_
      refine jv_xI (jv_dk t_L_law (k := 1004) rfl) (fun v100 => ?_)
      refine jv_aload_n (jv_dk t_L_law (k := 1005) rfl) rfl rfl (Or.inr ⟨_, rfl⟩) ?_
      refine jv_iload (jv_dk t_L_law (k := 1006) rfl) rfl ?_
      refine jv_iconst (v := 2) (jv_dk t_L_law (k := 1007) rfl) (by decide) ?_
      refine jv_iadd (jv_dk t_L_law (k := 1008) rfl) ?_
      refine jv_xI (jv_dk t_L_law (k := 1009) rfl) (fun v101 => ?_)
      refine jv_aload_n (jv_dk t_L_law (k := 1010) rfl) rfl rfl (Or.inr ⟨_, rfl⟩) ?_
      refine jv_callH (en' := jeI) (pv := jpI) (As := [.ref (x1), .int (v100), .int (v101), .ref (x3)]) (S := []) (jv_dk t_L_law (k := 1011) rfl) (fun _ => rfl) lk_L_171 me_L_steps ms_L_steps ⟨by decide, by decide⟩ rfl rfl (Nat.le_of_ble_eq_true rfl) (P_L_steps X x1 v100 v101 x3 h) (fun v102 h103 => ?_)
      show jv_O X M_L_law _ jeI 1629 [some (.ref (jv_ad X 13)), some (.ref (x1)), some (.ref (x2)), some (.ref (x3)), some (.int (x4)), none, none] [.int (v102)] h103 _
      refine jv_istore (L' := [some (.ref (jv_ad X 13)), some (.ref (x1)), some (.ref (x2)), some (.ref (x3)), some (.int (x4)), some (.int (v102)), none]) (jv_dk t_L_law (k := 1012) rfl) (Nat.le_of_ble_eq_true rfl) rfl ?_
      refine jv_aload_n (jv_dk t_L_law (k := 1013) rfl) rfl rfl (Or.inr ⟨_, rfl⟩) ?_
      refine jv_aload_n (jv_dk t_L_law (k := 1014) rfl) rfl rfl (Or.inr ⟨_, rfl⟩) ?_
      refine jv_iload (jv_dk t_L_law (k := 1015) rfl) rfl ?_
      refine jv_iconst (v := 1) (jv_dk t_L_law (k := 1016) rfl) (by decide) ?_
      refine jv_iadd (jv_dk t_L_law (k := 1017) rfl) ?_
      refine jv_xI (jv_dk t_L_law (k := 1018) rfl) (fun v104 => ?_)
      refine jv_aload_n (jv_dk t_L_law (k := 1019) rfl) rfl rfl (Or.inr ⟨_, rfl⟩) ?_
      refine jv_iload (jv_dk t_L_law (k := 1020) rfl) rfl ?_
      refine jv_iconst (v := 2) (jv_dk t_L_law (k := 1021) rfl) (by decide) ?_
      refine jv_iadd (jv_dk t_L_law (k := 1022) rfl) ?_
      refine jv_xI (jv_dk t_L_law (k := 1023) rfl) (fun v105 => ?_)
      refine jv_callV (en' := jeI) (pv := jpI) (As := [.int (v104), .int (v105)]) (S := []) (jv_dk t_L_law (k := 1024) rfl) (fun _ => rfl) (Or.inl lk_L_173) me_X13_steps mv_X13_steps ⟨by decide, by decide⟩ rfl rfl rfl (Nat.le_of_ble_eq_true rfl) (P_X13_steps X x2 v104 v105 h103) (fun v106 h107 => ?_)
      show jv_O X M_L_law _ jeI 1647 [some (.ref (jv_ad X 13)), some (.ref (x1)), some (.ref (x2)), some (.ref (x3)), some (.int (x4)), some (.int (v102)), none] [.int (v106)] h107 _
      refine jv_istore (L' := [some (.ref (jv_ad X 13)), some (.ref (x1)), some (.ref (x2)), some (.ref (x3)), some (.int (x4)), some (.int (v102)), some (.int (v106))]) (jv_dk t_L_law (k := 1025) rfl) (Nat.le_of_ble_eq_true rfl) rfl ?_
      refine jv_aload_n (jv_dk t_L_law (k := 1026) rfl) rfl rfl (Or.inr ⟨_, rfl⟩) ?_
      refine jv_callV (en' := jeI) (pv := jpI) (As := []) (S := []) (jv_dk t_L_law (k := 1027) rfl) (fun _ => rfl) (Or.inl lk_L_82) me_X13_thrown mv_X13_thrown ⟨by decide, by decide⟩ rfl rfl rfl (Nat.le_of_ble_eq_true rfl) (P_X13_thrown X x2 h107) (fun v108 h109 => ?_)
      show jv_O X M_L_law _ jeI 1653 [some (.ref (jv_ad X 13)), some (.ref (x1)), some (.ref (x2)), some (.ref (x3)), some (.int (x4)), some (.int (v102)), some (.int (v106))] [.int (v108)] h109 _
      refine jv_iload (jv_dk t_L_law (k := 1028) rfl) rfl ?_
      refine jv_icmp_eq (tgt := 1660) (jv_dk t_L_law (k := 1029) rfl) rfl (fun c110 => ?_) (fun c110 => ?_)
      · refine jv_iload (jv_dk t_L_law (k := 1032) rfl) rfl ?_
        refine jv_if_ne (tgt := 1677) (jv_dk t_L_law (k := 1033) rfl) rfl (fun c111 => ?_) (fun c111 => ?_)
        · refine jv_goto (tgt := 1929) (jv_dk t_L_law (k := 1043) rfl) rfl ?_
          refine jv_iinc (v := 6) (L' := [some (.ref (jv_ad X 13)), some (.ref (x1)), some (.ref (x2)), some (.ref (x3)), some (.int (x4 + 6)), some (.int (v102)), some (.int (v106))]) (jv_dk t_L_law (k := 1203) rfl) rfl (by decide) rfl ?_
          refine jv_goto (tgt := 23) (jv_dk t_L_law (k := 1204) rfl) rfl ?_
          refine jv_le_row (jv_le_s (jv_le_s (jv_le_s (jv_le_s (jv_le_s (jv_le_n (jv_le_n (jv_le_nil)))))))) ?_
          exact hR23 _ _ _ _ _ 
        · show jv_O _ _ _ _ 1665 _ _ _ _
          refine jv_aload_n (jv_dk t_L_law (k := 1034) rfl) rfl rfl (Or.inr ⟨_, rfl⟩) ?_
          refine jv_iconst (v := 0) (jv_dk t_L_law (k := 1035) rfl) (by decide) ?_
          refine jv_laload (jv_dk t_L_law (k := 1036) rfl) (fun v112 => ?_)
          refine jv_iload (jv_dk t_L_law (k := 1037) rfl) rfl ?_
          refine jv_i2l (jv_dk t_L_law (k := 1038) rfl) ?_
          refine jv_lcmp (jv_dk t_L_law (k := 1039) rfl) ?_
          refine jv_if_eq (tgt := 1677) (jv_dk t_L_law (k := 1040) rfl) rfl (fun c113 => ?_) (fun c113 => ?_)
          · refine jv_goto (tgt := 1929) (jv_dk t_L_law (k := 1043) rfl) rfl ?_
            refine jv_iinc (v := 6) (L' := [some (.ref (jv_ad X 13)), some (.ref (x1)), some (.ref (x2)), some (.ref (x3)), some (.int (x4 + 6)), some (.int (v102)), some (.int (v106))]) (jv_dk t_L_law (k := 1203) rfl) rfl (by decide) rfl ?_
            refine jv_goto (tgt := 23) (jv_dk t_L_law (k := 1204) rfl) rfl ?_
            refine jv_le_row (jv_le_s (jv_le_s (jv_le_s (jv_le_s (jv_le_s (jv_le_n (jv_le_n (jv_le_nil)))))))) ?_
            exact hR23 _ _ _ _ _ 
          · show jv_O _ _ _ _ 1675 _ _ _ _
            refine jv_iconst (v := 0) (jv_dk t_L_law (k := 1041) rfl) (by decide) ?_
            exact jv_iret (ty := .boolean) (jv_dk t_L_law (k := 1042) rfl) rfl rfl rfl
      · show jv_O _ _ _ _ 1658 _ _ _ _
        refine jv_iconst (v := 0) (jv_dk t_L_law (k := 1030) rfl) (by decide) ?_
        exact jv_iret (ty := .boolean) (jv_dk t_L_law (k := 1031) rfl) rfl rfl rfl
    rw [if_neg c37]
    by_cases c38 : (v10 &&& 63) = 27
    · rw [if_pos c38]
      refine jv_tbl (tgt := 1680) (jv_dk t_L_law (k := 24) rfl) (by rw [c38] <;> decide) (by rw [c38] <;> decide) (by rw [c38] <;> rfl) rfl ?_
      refine jv_aload_n (jv_dk t_L_law (k := 1044) rfl) rfl rfl (Or.inr ⟨_, rfl⟩) ?_
      refine jv_aload_n (jv_dk t_L_law (k := 1045) rfl) rfl rfl (Or.inr ⟨_, rfl⟩) ?_
      refine jv_iload (jv_dk t_L_law (k := 1046) rfl) rfl ?_
      refine jv_iconst (v := 1) (jv_dk t_L_law (k := 1047) rfl) (by decide) ?_
      refine jv_iadd (jv_dk t_L_law (k := 1048) rfl) ?_
      refine jv_xI (jv_dk t_L_law (k := 1049) rfl) (fun v87 => ?_)
      refine jv_aload_n (jv_dk t_L_law (k := 1050) rfl) rfl rfl (Or.inr ⟨_, rfl⟩) ?_
      refine jv_iload (jv_dk t_L_law (k := 1051) rfl) rfl ?_
      refine jv_iconst (v := 2) (jv_dk t_L_law (k := 1052) rfl) (by decide) ?_
      refine jv_iadd (jv_dk t_L_law (k := 1053) rfl) ?_
      refine jv_xI (jv_dk t_L_law (k := 1054) rfl) (fun v88 => ?_)
      refine jv_aload_n (jv_dk t_L_law (k := 1055) rfl) rfl rfl (Or.inr ⟨_, rfl⟩) ?_
      refine jv_iload (jv_dk t_L_law (k := 1056) rfl) rfl ?_
      refine jv_iconst (v := 3) (jv_dk t_L_law (k := 1057) rfl) (by decide) ?_
      refine jv_iadd (jv_dk t_L_law (k := 1058) rfl) ?_
      refine jv_xI (jv_dk t_L_law (k := 1059) rfl) (fun v89 => ?_)
      refine jv_if_eq (tgt := 1706) (jv_dk t_L_law (k := 1060) rfl) rfl (fun c90 => ?_) (fun c90 => ?_)
      · refine jv_iconst (v := 0) (jv_dk t_L_law (k := 1063) rfl) (by decide) ?_
        exact o_f_L_law_b1707 hR23 hK23 _ _ _ _ _ _ _ _ _ 
      · show jv_O _ _ _ _ 1702 _ _ _ _
        refine jv_iconst (v := 1) (jv_dk t_L_law (k := 1061) rfl) (by decide) ?_
        refine jv_goto (tgt := 1707) (jv_dk t_L_law (k := 1062) rfl) rfl ?_
        exact o_f_L_law_b1707 hR23 hK23 _ _ _ _ _ _ _ _ _ 
    rw [if_neg c38]
    by_cases c39 : (v10 &&& 63) = 28
    · rw [if_pos c39]
      refine jv_tbl (tgt := 1745) (jv_dk t_L_law (k := 24) rfl) (by rw [c39] <;> decide) (by rw [c39] <;> decide) (by rw [c39] <;> rfl) rfl ?_
      refine jv_aload_n (jv_dk t_L_law (k := 1089) rfl) rfl rfl (Or.inr ⟨_, rfl⟩) ?_
      refine jv_callV (en' := jeI) (pv := jpI) (As := []) (S := []) (jv_dk t_L_law (k := 1090) rfl) (fun _ => rfl) (Or.inl lk_L_179) me_X12_fits mv_X12_fits ⟨by decide, by decide⟩ rfl rfl rfl (Nat.le_of_ble_eq_true rfl) (P_X12_fits X x1 h) (fun v82 h83 => ?_)
      show jv_O X M_L_law _ jeI 1749 [some (.ref (jv_ad X 13)), some (.ref (x1)), some (.ref (x2)), some (.ref (x3)), some (.int (x4)), none, none] [.int (v82)] h83 _
      refine jv_aload_n (jv_dk t_L_law (k := 1091) rfl) rfl rfl (Or.inr ⟨_, rfl⟩) ?_
      refine jv_callV (en' := jeI) (pv := jpI) (As := []) (S := [.int (v82)]) (jv_dk t_L_law (k := 1092) rfl) (fun _ => rfl) (Or.inl lk_L_182) me_X13_fits mv_X13_fits ⟨by decide, by decide⟩ rfl rfl rfl (Nat.le_of_ble_eq_true rfl) (P_X13_fits X x2 h83) (fun v84 h85 => ?_)
      show jv_O X M_L_law _ jeI 1753 [some (.ref (jv_ad X 13)), some (.ref (x1)), some (.ref (x2)), some (.ref (x3)), some (.int (x4)), none, none] [.int (v84), .int (v82)] h85 _
      refine jv_icmp_eq (tgt := 1929) (jv_dk t_L_law (k := 1093) rfl) rfl (fun c86 => ?_) (fun c86 => ?_)
      · refine jv_iinc (v := 6) (L' := [some (.ref (jv_ad X 13)), some (.ref (x1)), some (.ref (x2)), some (.ref (x3)), some (.int (x4 + 6)), none, none]) (jv_dk t_L_law (k := 1203) rfl) rfl (by decide) rfl ?_
        refine jv_goto (tgt := 23) (jv_dk t_L_law (k := 1204) rfl) rfl ?_
        exact hR23 _ _ _ _ _ 
      · show jv_O _ _ _ _ 1756 _ _ _ _
        refine jv_iconst (v := 0) (jv_dk t_L_law (k := 1094) rfl) (by decide) ?_
        exact jv_iret (ty := .boolean) (jv_dk t_L_law (k := 1095) rfl) rfl rfl rfl
    rw [if_neg c39]
    by_cases c40 : (v10 &&& 63) = 29
    · rw [if_pos c40]
      refine jv_tbl (tgt := 1758) (jv_dk t_L_law (k := 24) rfl) (by rw [c40] <;> decide) (by rw [c40] <;> decide) (by rw [c40] <;> rfl) rfl ?_
      refine jv_aload_n (jv_dk t_L_law (k := 1096) rfl) rfl rfl (Or.inr ⟨_, rfl⟩) ?_
      refine jv_aload_n (jv_dk t_L_law (k := 1097) rfl) rfl rfl (Or.inr ⟨_, rfl⟩) ?_
      refine jv_iload (jv_dk t_L_law (k := 1098) rfl) rfl ?_
      refine jv_iconst (v := 1) (jv_dk t_L_law (k := 1099) rfl) (by decide) ?_
      refine jv_iadd (jv_dk t_L_law (k := 1100) rfl) ?_
      refine jv_xI (jv_dk t_L_law (k := 1101) rfl) (fun v70 => ?_)
      refine jv_aload_n (jv_dk t_L_law (k := 1102) rfl) rfl rfl (Or.inr ⟨_, rfl⟩) ?_
      refine jv_callH (en' := jeI) (pv := jpI) (As := [.ref (x1), .int (v70), .ref (x3)]) (S := []) (jv_dk t_L_law (k := 1103) rfl) (fun _ => rfl) lk_L_183 me_L_look ms_L_look ⟨by decide, by decide⟩ rfl rfl (Nat.le_of_ble_eq_true rfl) (P_L_look X x1 v70 x3 h) (fun v71 h72 => ?_)
      show jv_O X M_L_law _ jeI 1769 [some (.ref (jv_ad X 13)), some (.ref (x1)), some (.ref (x2)), some (.ref (x3)), some (.int (x4)), none, none] [.int (v71)] h72 _
      refine jv_istore (L' := [some (.ref (jv_ad X 13)), some (.ref (x1)), some (.ref (x2)), some (.ref (x3)), some (.int (x4)), some (.int (v71)), none]) (jv_dk t_L_law (k := 1104) rfl) (Nat.le_of_ble_eq_true rfl) rfl ?_
      refine jv_aload_n (jv_dk t_L_law (k := 1105) rfl) rfl rfl (Or.inr ⟨_, rfl⟩) ?_
      refine jv_aload_n (jv_dk t_L_law (k := 1106) rfl) rfl rfl (Or.inr ⟨_, rfl⟩) ?_
      refine jv_iload (jv_dk t_L_law (k := 1107) rfl) rfl ?_
      refine jv_iconst (v := 1) (jv_dk t_L_law (k := 1108) rfl) (by decide) ?_
      refine jv_iadd (jv_dk t_L_law (k := 1109) rfl) ?_
      refine jv_xI (jv_dk t_L_law (k := 1110) rfl) (fun v73 => ?_)
      refine jv_callV (en' := jeI) (pv := jpI) (As := [.int (v73)]) (S := []) (jv_dk t_L_law (k := 1111) rfl) (fun _ => rfl) (Or.inl lk_L_185) me_X13_look mv_X13_look ⟨by decide, by decide⟩ rfl rfl rfl (Nat.le_of_ble_eq_true rfl) (P_X13_look X x2 v73 h72) (fun v74 h75 => ?_)
      show jv_O X M_L_law _ jeI 1781 [some (.ref (jv_ad X 13)), some (.ref (x1)), some (.ref (x2)), some (.ref (x3)), some (.int (x4)), some (.int (v71)), none] [.int (v74)] h75 _
      refine jv_istore (L' := [some (.ref (jv_ad X 13)), some (.ref (x1)), some (.ref (x2)), some (.ref (x3)), some (.int (x4)), some (.int (v71)), some (.int (v74))]) (jv_dk t_L_law (k := 1112) rfl) (Nat.le_of_ble_eq_true rfl) rfl ?_
      refine jv_aload_n (jv_dk t_L_law (k := 1113) rfl) rfl rfl (Or.inr ⟨_, rfl⟩) ?_
      refine jv_callV (en' := jeI) (pv := jpI) (As := []) (S := []) (jv_dk t_L_law (k := 1114) rfl) (fun _ => rfl) (Or.inl lk_L_82) me_X13_thrown mv_X13_thrown ⟨by decide, by decide⟩ rfl rfl rfl (Nat.le_of_ble_eq_true rfl) (P_X13_thrown X x2 h75) (fun v76 h77 => ?_)
      show jv_O X M_L_law _ jeI 1787 [some (.ref (jv_ad X 13)), some (.ref (x1)), some (.ref (x2)), some (.ref (x3)), some (.int (x4)), some (.int (v71)), some (.int (v74))] [.int (v76)] h77 _
      refine jv_iload (jv_dk t_L_law (k := 1115) rfl) rfl ?_
      refine jv_icmp_eq (tgt := 1794) (jv_dk t_L_law (k := 1116) rfl) rfl (fun c78 => ?_) (fun c78 => ?_)
      · refine jv_iload (jv_dk t_L_law (k := 1119) rfl) rfl ?_
        refine jv_if_ne (tgt := 1811) (jv_dk t_L_law (k := 1120) rfl) rfl (fun c79 => ?_) (fun c79 => ?_)
        · refine jv_goto (tgt := 1929) (jv_dk t_L_law (k := 1130) rfl) rfl ?_
          refine jv_iinc (v := 6) (L' := [some (.ref (jv_ad X 13)), some (.ref (x1)), some (.ref (x2)), some (.ref (x3)), some (.int (x4 + 6)), some (.int (v71)), some (.int (v74))]) (jv_dk t_L_law (k := 1203) rfl) rfl (by decide) rfl ?_
          refine jv_goto (tgt := 23) (jv_dk t_L_law (k := 1204) rfl) rfl ?_
          refine jv_le_row (jv_le_s (jv_le_s (jv_le_s (jv_le_s (jv_le_s (jv_le_n (jv_le_n (jv_le_nil)))))))) ?_
          exact hR23 _ _ _ _ _ 
        · show jv_O _ _ _ _ 1799 _ _ _ _
          refine jv_aload_n (jv_dk t_L_law (k := 1121) rfl) rfl rfl (Or.inr ⟨_, rfl⟩) ?_
          refine jv_iconst (v := 0) (jv_dk t_L_law (k := 1122) rfl) (by decide) ?_
          refine jv_laload (jv_dk t_L_law (k := 1123) rfl) (fun v80 => ?_)
          refine jv_iload (jv_dk t_L_law (k := 1124) rfl) rfl ?_
          refine jv_i2l (jv_dk t_L_law (k := 1125) rfl) ?_
          refine jv_lcmp (jv_dk t_L_law (k := 1126) rfl) ?_
          refine jv_if_eq (tgt := 1811) (jv_dk t_L_law (k := 1127) rfl) rfl (fun c81 => ?_) (fun c81 => ?_)
          · refine jv_goto (tgt := 1929) (jv_dk t_L_law (k := 1130) rfl) rfl ?_
            refine jv_iinc (v := 6) (L' := [some (.ref (jv_ad X 13)), some (.ref (x1)), some (.ref (x2)), some (.ref (x3)), some (.int (x4 + 6)), some (.int (v71)), some (.int (v74))]) (jv_dk t_L_law (k := 1203) rfl) rfl (by decide) rfl ?_
            refine jv_goto (tgt := 23) (jv_dk t_L_law (k := 1204) rfl) rfl ?_
            refine jv_le_row (jv_le_s (jv_le_s (jv_le_s (jv_le_s (jv_le_s (jv_le_n (jv_le_n (jv_le_nil)))))))) ?_
            exact hR23 _ _ _ _ _ 
          · show jv_O _ _ _ _ 1809 _ _ _ _
            refine jv_iconst (v := 0) (jv_dk t_L_law (k := 1128) rfl) (by decide) ?_
            exact jv_iret (ty := .boolean) (jv_dk t_L_law (k := 1129) rfl) rfl rfl rfl
      · show jv_O _ _ _ _ 1792 _ _ _ _
        refine jv_iconst (v := 0) (jv_dk t_L_law (k := 1117) rfl) (by decide) ?_
        exact jv_iret (ty := .boolean) (jv_dk t_L_law (k := 1118) rfl) rfl rfl rfl
    rw [if_neg c40]
    by_cases c41 : (v10 &&& 63) = 30
    · rw [if_pos c41]
      refine jv_tbl (tgt := 1814) (jv_dk t_L_law (k := 24) rfl) (by rw [c41] <;> decide) (by rw [c41] <;> decide) (by rw [c41] <;> rfl) rfl ?_
      refine jv_aload_n (jv_dk t_L_law (k := 1131) rfl) rfl rfl (Or.inr ⟨_, rfl⟩) ?_
      refine jv_callV (en' := jeV) (pv := jpV) (As := []) (S := []) (jv_dk t_L_law (k := 1132) rfl) (fun _ => rfl) (Or.inl lk_L_186) me_X12_forget mv_X12_forget ⟨by decide, by decide⟩ rfl rfl rfl (Nat.le_of_ble_eq_true rfl) (P_X12_forget X x1 h) (fun _ h68 => ?_)
      show jv_O X M_L_law _ jeI 1818 [some (.ref (jv_ad X 13)), some (.ref (x1)), some (.ref (x2)), some (.ref (x3)), some (.int (x4)), none, none] [] h68 _
      refine jv_aload_n (jv_dk t_L_law (k := 1133) rfl) rfl rfl (Or.inr ⟨_, rfl⟩) ?_
      refine jv_callV (en' := jeV) (pv := jpV) (As := []) (S := []) (jv_dk t_L_law (k := 1134) rfl) (fun _ => rfl) (Or.inl lk_L_189) me_X13_forget mv_X13_forget ⟨by decide, by decide⟩ rfl rfl rfl (Nat.le_of_ble_eq_true rfl) (P_X13_forget X x2 h68) (fun _ h69 => ?_)
      show jv_O X M_L_law _ jeI 1822 [some (.ref (jv_ad X 13)), some (.ref (x1)), some (.ref (x2)), some (.ref (x3)), some (.int (x4)), none, none] [] h69 _
      refine jv_goto (tgt := 1929) (jv_dk t_L_law (k := 1135) rfl) rfl ?_
      refine jv_iinc (v := 6) (L' := [some (.ref (jv_ad X 13)), some (.ref (x1)), some (.ref (x2)), some (.ref (x3)), some (.int (x4 + 6)), none, none]) (jv_dk t_L_law (k := 1203) rfl) rfl (by decide) rfl ?_
      refine jv_goto (tgt := 23) (jv_dk t_L_law (k := 1204) rfl) rfl ?_
      exact hR23 _ _ _ _ _ 
    rw [if_neg c41]
    by_cases c42 : (v10 &&& 63) = 31
    · rw [if_pos c42]
      refine jv_tbl (tgt := 1825) (jv_dk t_L_law (k := 24) rfl) (by rw [c42] <;> decide) (by rw [c42] <;> decide) (by rw [c42] <;> rfl) rfl ?_
      refine jv_aload_n (jv_dk t_L_law (k := 1136) rfl) rfl rfl (Or.inr ⟨_, rfl⟩) ?_
      refine jv_aload_n (jv_dk t_L_law (k := 1137) rfl) rfl rfl (Or.inr ⟨_, rfl⟩) ?_
      refine jv_iload (jv_dk t_L_law (k := 1138) rfl) rfl ?_
      refine jv_iconst (v := 1) (jv_dk t_L_law (k := 1139) rfl) (by decide) ?_
      refine jv_iadd (jv_dk t_L_law (k := 1140) rfl) ?_
      refine jv_xI (jv_dk t_L_law (k := 1141) rfl) (fun v52 => ?_)
      refine jv_aload_n (jv_dk t_L_law (k := 1142) rfl) rfl rfl (Or.inr ⟨_, rfl⟩) ?_
      refine jv_iload (jv_dk t_L_law (k := 1143) rfl) rfl ?_
      refine jv_iconst (v := 2) (jv_dk t_L_law (k := 1144) rfl) (by decide) ?_
      refine jv_iadd (jv_dk t_L_law (k := 1145) rfl) ?_
      refine jv_xI (jv_dk t_L_law (k := 1146) rfl) (fun v53 => ?_)
      refine jv_aload_n (jv_dk t_L_law (k := 1147) rfl) rfl rfl (Or.inr ⟨_, rfl⟩) ?_
      refine jv_iload (jv_dk t_L_law (k := 1148) rfl) rfl ?_
      refine jv_iconst (v := 3) (jv_dk t_L_law (k := 1149) rfl) (by decide) ?_
      refine jv_iadd (jv_dk t_L_law (k := 1150) rfl) ?_
      refine jv_xI (jv_dk t_L_law (k := 1151) rfl) (fun v54 => ?_)
      refine jv_aload_n (jv_dk t_L_law (k := 1152) rfl) rfl rfl (Or.inr ⟨_, rfl⟩) ?_
      refine jv_callH (en' := jeI) (pv := jpI) (As := [.ref (x1), .int (v52), .int (v53), .int (v54), .ref (x3)]) (S := []) (jv_dk t_L_law (k := 1153) rfl) (fun _ => rfl) lk_L_190 me_L_years ms_L_years ⟨by decide, by decide⟩ rfl rfl (Nat.le_of_ble_eq_true rfl) (P_L_years X x1 v52 v53 v54 x3 h) (fun v55 h56 => ?_)
      show jv_O X M_L_law _ jeI 1848 [some (.ref (jv_ad X 13)), some (.ref (x1)), some (.ref (x2)), some (.ref (x3)), some (.int (x4)), none, none] [.int (v55)] h56 _
      refine jv_istore (L' := [some (.ref (jv_ad X 13)), some (.ref (x1)), some (.ref (x2)), some (.ref (x3)), some (.int (x4)), some (.int (v55)), none]) (jv_dk t_L_law (k := 1154) rfl) (Nat.le_of_ble_eq_true rfl) rfl ?_
      refine jv_aload_n (jv_dk t_L_law (k := 1155) rfl) rfl rfl (Or.inr ⟨_, rfl⟩) ?_
      refine jv_aload_n (jv_dk t_L_law (k := 1156) rfl) rfl rfl (Or.inr ⟨_, rfl⟩) ?_
      refine jv_iload (jv_dk t_L_law (k := 1157) rfl) rfl ?_
      refine jv_iconst (v := 1) (jv_dk t_L_law (k := 1158) rfl) (by decide) ?_
      refine jv_iadd (jv_dk t_L_law (k := 1159) rfl) ?_
      refine jv_xI (jv_dk t_L_law (k := 1160) rfl) (fun v57 => ?_)
      refine jv_aload_n (jv_dk t_L_law (k := 1161) rfl) rfl rfl (Or.inr ⟨_, rfl⟩) ?_
      refine jv_iload (jv_dk t_L_law (k := 1162) rfl) rfl ?_
      refine jv_iconst (v := 2) (jv_dk t_L_law (k := 1163) rfl) (by decide) ?_
      refine jv_iadd (jv_dk t_L_law (k := 1164) rfl) ?_
      refine jv_xI (jv_dk t_L_law (k := 1165) rfl) (fun v58 => ?_)
      refine jv_aload_n (jv_dk t_L_law (k := 1166) rfl) rfl rfl (Or.inr ⟨_, rfl⟩) ?_
      refine jv_iload (jv_dk t_L_law (k := 1167) rfl) rfl ?_
      refine jv_iconst (v := 3) (jv_dk t_L_law (k := 1168) rfl) (by decide) ?_
      refine jv_iadd (jv_dk t_L_law (k := 1169) rfl) ?_
      refine jv_xI (jv_dk t_L_law (k := 1170) rfl) (fun v59 => ?_)
      refine jv_callV (en' := jeI) (pv := jpI) (As := [.int (v57), .int (v58), .int (v59)]) (S := []) (jv_dk t_L_law (k := 1171) rfl) (fun _ => rfl) (Or.inl lk_L_192) me_X13_years mv_X13_years ⟨by decide, by decide⟩ rfl rfl rfl (Nat.le_of_ble_eq_true rfl) (P_X13_years X x2 v57 v58 v59 h56) (fun v60 h61 => ?_)
      show jv_O X M_L_law _ jeI 1872 [some (.ref (jv_ad X 13)), some (.ref (x1)), some (.ref (x2)), some (.ref (x3)), some (.int (x4)), some (.int (v55)), none] [.int (v60)] h61 _
      refine jv_istore (L' := [some (.ref (jv_ad X 13)), some (.ref (x1)), some (.ref (x2)), some (.ref (x3)), some (.int (x4)), some (.int (v55)), some (.int (v60))]) (jv_dk t_L_law (k := 1172) rfl) (Nat.le_of_ble_eq_true rfl) rfl ?_
      refine jv_aload_n (jv_dk t_L_law (k := 1173) rfl) rfl rfl (Or.inr ⟨_, rfl⟩) ?_
      refine jv_callV (en' := jeI) (pv := jpI) (As := []) (S := []) (jv_dk t_L_law (k := 1174) rfl) (fun _ => rfl) (Or.inl lk_L_82) me_X13_thrown mv_X13_thrown ⟨by decide, by decide⟩ rfl rfl rfl (Nat.le_of_ble_eq_true rfl) (P_X13_thrown X x2 h61) (fun v62 h63 => ?_)
      show jv_O X M_L_law _ jeI 1878 [some (.ref (jv_ad X 13)), some (.ref (x1)), some (.ref (x2)), some (.ref (x3)), some (.int (x4)), some (.int (v55)), some (.int (v60))] [.int (v62)] h63 _
      refine jv_iload (jv_dk t_L_law (k := 1175) rfl) rfl ?_
      refine jv_icmp_eq (tgt := 1885) (jv_dk t_L_law (k := 1176) rfl) rfl (fun c64 => ?_) (fun c64 => ?_)
      · refine jv_iload (jv_dk t_L_law (k := 1179) rfl) rfl ?_
        refine jv_if_ne (tgt := 1902) (jv_dk t_L_law (k := 1180) rfl) rfl (fun c65 => ?_) (fun c65 => ?_)
        · refine jv_goto (tgt := 1929) (jv_dk t_L_law (k := 1190) rfl) rfl ?_
          refine jv_iinc (v := 6) (L' := [some (.ref (jv_ad X 13)), some (.ref (x1)), some (.ref (x2)), some (.ref (x3)), some (.int (x4 + 6)), some (.int (v55)), some (.int (v60))]) (jv_dk t_L_law (k := 1203) rfl) rfl (by decide) rfl ?_
          refine jv_goto (tgt := 23) (jv_dk t_L_law (k := 1204) rfl) rfl ?_
          refine jv_le_row (jv_le_s (jv_le_s (jv_le_s (jv_le_s (jv_le_s (jv_le_n (jv_le_n (jv_le_nil)))))))) ?_
          exact hR23 _ _ _ _ _ 
        · show jv_O _ _ _ _ 1890 _ _ _ _
          refine jv_aload_n (jv_dk t_L_law (k := 1181) rfl) rfl rfl (Or.inr ⟨_, rfl⟩) ?_
          refine jv_iconst (v := 0) (jv_dk t_L_law (k := 1182) rfl) (by decide) ?_
          refine jv_laload (jv_dk t_L_law (k := 1183) rfl) (fun v66 => ?_)
          refine jv_iload (jv_dk t_L_law (k := 1184) rfl) rfl ?_
          refine jv_i2l (jv_dk t_L_law (k := 1185) rfl) ?_
          refine jv_lcmp (jv_dk t_L_law (k := 1186) rfl) ?_
          refine jv_if_eq (tgt := 1902) (jv_dk t_L_law (k := 1187) rfl) rfl (fun c67 => ?_) (fun c67 => ?_)
          · refine jv_goto (tgt := 1929) (jv_dk t_L_law (k := 1190) rfl) rfl ?_
            refine jv_iinc (v := 6) (L' := [some (.ref (jv_ad X 13)), some (.ref (x1)), some (.ref (x2)), some (.ref (x3)), some (.int (x4 + 6)), some (.int (v55)), some (.int (v60))]) (jv_dk t_L_law (k := 1203) rfl) rfl (by decide) rfl ?_
            refine jv_goto (tgt := 23) (jv_dk t_L_law (k := 1204) rfl) rfl ?_
            refine jv_le_row (jv_le_s (jv_le_s (jv_le_s (jv_le_s (jv_le_s (jv_le_n (jv_le_n (jv_le_nil)))))))) ?_
            exact hR23 _ _ _ _ _ 
          · show jv_O _ _ _ _ 1900 _ _ _ _
            refine jv_iconst (v := 0) (jv_dk t_L_law (k := 1188) rfl) (by decide) ?_
            exact jv_iret (ty := .boolean) (jv_dk t_L_law (k := 1189) rfl) rfl rfl rfl
      · show jv_O _ _ _ _ 1883 _ _ _ _
        refine jv_iconst (v := 0) (jv_dk t_L_law (k := 1177) rfl) (by decide) ?_
        exact jv_iret (ty := .boolean) (jv_dk t_L_law (k := 1178) rfl) rfl rfl rfl
    rw [if_neg c42]
    by_cases c43 : (v10 &&& 63) = 32
    · rw [if_pos c43]
      refine jv_tbl (tgt := 1905) (jv_dk t_L_law (k := 24) rfl) (by rw [c43] <;> decide) (by rw [c43] <;> decide) (by rw [c43] <;> rfl) rfl ?_
      refine jv_aload_n (jv_dk t_L_law (k := 1191) rfl) rfl rfl (Or.inr ⟨_, rfl⟩) ?_
      refine jv_callV (en' := jeV) (pv := jpV) (As := []) (S := []) (jv_dk t_L_law (k := 1192) rfl) (fun _ => rfl) (Or.inl lk_L_193) me_X12_image mv_X12_image ⟨by decide, by decide⟩ rfl rfl rfl (Nat.le_of_ble_eq_true rfl) (P_X12_image X x1 h) (fun _ h50 => ?_)
      show jv_O X M_L_law _ jeI 1909 [some (.ref (jv_ad X 13)), some (.ref (x1)), some (.ref (x2)), some (.ref (x3)), some (.int (x4)), none, none] [] h50 _
      refine jv_aload_n (jv_dk t_L_law (k := 1193) rfl) rfl rfl (Or.inr ⟨_, rfl⟩) ?_
      refine jv_callV (en' := jeV) (pv := jpV) (As := []) (S := []) (jv_dk t_L_law (k := 1194) rfl) (fun _ => rfl) (Or.inl lk_L_196) me_X13_image mv_X13_image ⟨by decide, by decide⟩ rfl rfl rfl (Nat.le_of_ble_eq_true rfl) (P_X13_image X x2 h50) (fun _ h51 => ?_)
      show jv_O X M_L_law _ jeI 1913 [some (.ref (jv_ad X 13)), some (.ref (x1)), some (.ref (x2)), some (.ref (x3)), some (.int (x4)), none, none] [] h51 _
      refine jv_goto (tgt := 1929) (jv_dk t_L_law (k := 1195) rfl) rfl ?_
      refine jv_iinc (v := 6) (L' := [some (.ref (jv_ad X 13)), some (.ref (x1)), some (.ref (x2)), some (.ref (x3)), some (.int (x4 + 6)), none, none]) (jv_dk t_L_law (k := 1203) rfl) rfl (by decide) rfl ?_
      refine jv_goto (tgt := 23) (jv_dk t_L_law (k := 1204) rfl) rfl ?_
      exact hR23 _ _ _ _ _ 
    rw [if_neg c43]
    by_cases c44 : (v10 &&& 63) = 33
    · rw [if_pos c44]
      refine jv_tbl (tgt := 1916) (jv_dk t_L_law (k := 24) rfl) (by rw [c44] <;> decide) (by rw [c44] <;> decide) (by rw [c44] <;> rfl) rfl ?_
      refine jv_aload_n (jv_dk t_L_law (k := 1196) rfl) rfl rfl (Or.inr ⟨_, rfl⟩) ?_
      refine jv_callV (en' := jeI) (pv := jpI) (As := []) (S := []) (jv_dk t_L_law (k := 1197) rfl) (fun _ => rfl) (Or.inl lk_L_197) me_X12_restore mv_X12_restore ⟨by decide, by decide⟩ rfl rfl rfl (Nat.le_of_ble_eq_true rfl) (P_X12_restore X x1 h) (fun v45 h46 => ?_)
      show jv_O X M_L_law _ jeI 1920 [some (.ref (jv_ad X 13)), some (.ref (x1)), some (.ref (x2)), some (.ref (x3)), some (.int (x4)), none, none] [.int (v45)] h46 _
      refine jv_aload_n (jv_dk t_L_law (k := 1198) rfl) rfl rfl (Or.inr ⟨_, rfl⟩) ?_
      refine jv_callV (en' := jeI) (pv := jpI) (As := []) (S := [.int (v45)]) (jv_dk t_L_law (k := 1199) rfl) (fun _ => rfl) (Or.inl lk_L_201) me_X13_restore mv_X13_restore ⟨by decide, by decide⟩ rfl rfl rfl (Nat.le_of_ble_eq_true rfl) (P_X13_restore X x2 h46) (fun v47 h48 => ?_)
      show jv_O X M_L_law _ jeI 1924 [some (.ref (jv_ad X 13)), some (.ref (x1)), some (.ref (x2)), some (.ref (x3)), some (.int (x4)), none, none] [.int (v47), .int (v45)] h48 _
      refine jv_icmp_eq (tgt := 1929) (jv_dk t_L_law (k := 1200) rfl) rfl (fun c49 => ?_) (fun c49 => ?_)
      · refine jv_iinc (v := 6) (L' := [some (.ref (jv_ad X 13)), some (.ref (x1)), some (.ref (x2)), some (.ref (x3)), some (.int (x4 + 6)), none, none]) (jv_dk t_L_law (k := 1203) rfl) rfl (by decide) rfl ?_
        refine jv_goto (tgt := 23) (jv_dk t_L_law (k := 1204) rfl) rfl ?_
        exact hR23 _ _ _ _ _ 
      · show jv_O _ _ _ _ 1927 _ _ _ _
        refine jv_iconst (v := 0) (jv_dk t_L_law (k := 1201) rfl) (by decide) ?_
        exact jv_iret (ty := .boolean) (jv_dk t_L_law (k := 1202) rfl) rfl rfl rfl
    rw [if_neg c44]
    have e_c11 := jv_ne (x := (v10 &&& 63)) (k := 0) (by decide) (by decide) c11
    have e_c12 := jv_ne (x := (v10 &&& 63)) (k := 1) (by decide) (by decide) c12
    have e_c13 := jv_ne (x := (v10 &&& 63)) (k := 2) (by decide) (by decide) c13
    have e_c14 := jv_ne (x := (v10 &&& 63)) (k := 3) (by decide) (by decide) c14
    have e_c15 := jv_ne (x := (v10 &&& 63)) (k := 4) (by decide) (by decide) c15
    have e_c16 := jv_ne (x := (v10 &&& 63)) (k := 5) (by decide) (by decide) c16
    have e_c17 := jv_ne (x := (v10 &&& 63)) (k := 6) (by decide) (by decide) c17
    have e_c18 := jv_ne (x := (v10 &&& 63)) (k := 7) (by decide) (by decide) c18
    have e_c19 := jv_ne (x := (v10 &&& 63)) (k := 8) (by decide) (by decide) c19
    have e_c20 := jv_ne (x := (v10 &&& 63)) (k := 9) (by decide) (by decide) c20
    have e_c21 := jv_ne (x := (v10 &&& 63)) (k := 10) (by decide) (by decide) c21
    have e_c22 := jv_ne (x := (v10 &&& 63)) (k := 11) (by decide) (by decide) c22
    have e_c23 := jv_ne (x := (v10 &&& 63)) (k := 12) (by decide) (by decide) c23
    have e_c24 := jv_ne (x := (v10 &&& 63)) (k := 13) (by decide) (by decide) c24
    have e_c25 := jv_ne (x := (v10 &&& 63)) (k := 14) (by decide) (by decide) c25
    have e_c26 := jv_ne (x := (v10 &&& 63)) (k := 15) (by decide) (by decide) c26
    have e_c27 := jv_ne (x := (v10 &&& 63)) (k := 16) (by decide) (by decide) c27
    have e_c28 := jv_ne (x := (v10 &&& 63)) (k := 17) (by decide) (by decide) c28
    have e_c29 := jv_ne (x := (v10 &&& 63)) (k := 18) (by decide) (by decide) c29
    have e_c30 := jv_ne (x := (v10 &&& 63)) (k := 19) (by decide) (by decide) c30
    have e_c31 := jv_ne (x := (v10 &&& 63)) (k := 20) (by decide) (by decide) c31
    have e_c32 := jv_ne (x := (v10 &&& 63)) (k := 21) (by decide) (by decide) c32
    have e_c33 := jv_ne (x := (v10 &&& 63)) (k := 22) (by decide) (by decide) c33
    have e_c34 := jv_ne (x := (v10 &&& 63)) (k := 23) (by decide) (by decide) c34
    have e_c35 := jv_ne (x := (v10 &&& 63)) (k := 24) (by decide) (by decide) c35
    have e_c36 := jv_ne (x := (v10 &&& 63)) (k := 25) (by decide) (by decide) c36
    have e_c37 := jv_ne (x := (v10 &&& 63)) (k := 26) (by decide) (by decide) c37
    have e_c38 := jv_ne (x := (v10 &&& 63)) (k := 27) (by decide) (by decide) c38
    have e_c39 := jv_ne (x := (v10 &&& 63)) (k := 28) (by decide) (by decide) c39
    have e_c40 := jv_ne (x := (v10 &&& 63)) (k := 29) (by decide) (by decide) c40
    have e_c41 := jv_ne (x := (v10 &&& 63)) (k := 30) (by decide) (by decide) c41
    have e_c42 := jv_ne (x := (v10 &&& 63)) (k := 31) (by decide) (by decide) c42
    have e_c43 := jv_ne (x := (v10 &&& 63)) (k := 32) (by decide) (by decide) c43
    have e_c44 := jv_ne (x := (v10 &&& 63)) (k := 33) (by decide) (by decide) c44
    refine jv_tblOut (tgt := 1929) (jv_dk t_L_law (k := 24) rfl) (by omega) rfl ?_
    refine jv_iinc (v := 6) (L' := [some (.ref (jv_ad X 13)), some (.ref (x1)), some (.ref (x2)), some (.ref (x3)), some (.int (x4 + 6)), none, none]) (jv_dk t_L_law (k := 1203) rfl) rfl (by decide) rfl ?_
    refine jv_goto (tgt := 23) (jv_dk t_L_law (k := 1204) rfl) rfl ?_
    exact hR23 _ _ _ _ _ 
def f_L_law (N : Nat) (xs : Nat → Int32)  (h : jh) : Option (Int32 × jh) :=
  nO h 10 10 [.null, .null, .null, .null, .null, .null, .int 0, .int 0, .null, .int 0] fun q1 h2 =>
  bd (f_X12_init q1 h2) fun _ h3 =>
  nO h3 11 36 [.null, .int 0, .null, .null, .null, .int 0, .int 0, .int 0, .int 0, .int 0, .int 0, .int 0, .int 0, .int 0, .int 0, .null, .int 0, .null, .int 0, .null, .null, .null, .int 0, .null, .null, .null, .int 0, .int 0, .int 0, .int 0, .null, .null, .null, .null, .null, .null] fun q4 h5 =>
  bd (f_X13_init q4 h5) fun _ h6 =>
  nL8 h6 1 fun q7 h8 =>
  jlp4 (f_L_law_h23 N xs (fun  h422 =>
  some (1, h422))) jfu q1 q4 q7 0 h8
theorem o_f_L_law (X : jx) (b0 : Nat × Nat) (h : jh) : jv_O X M_L_law b0 jeI 0 [some (.ref (jv_ad X 13)), none, none, none, none, none, none] [] h (f_L_law X.2.2.2.2.2.1 X.2.2.2.2.2.2 h) := by
  unfold f_L_law
  refine jv_new (jv_dk t_L_law (k := 0) rfl) kX12 ck_L_8 ib_X12 iz_X12 df_X12 (fun q1 h2 => ?_)
  refine jv_dup (jv_dk t_L_law (k := 1) rfl) rfl ?_
  refine jv_callI (en' := jeV) (pv := jpV) (As := []) (S := [.ref (q1)]) (jv_dk t_L_law (k := 2) rfl) (fun _ => rfl) (Or.inl lk_L_67) me_X12_init mi_X12_init rfl rfl ⟨by decide, by decide⟩ rfl rfl (Nat.le_of_ble_eq_true rfl) (P_X12_init X q1 h2) (fun _ h3 => ?_)
  show jv_O X M_L_law _ jeI 7 [some (.ref (jv_ad X 13)), none, none, none, none, none, none] [.ref (q1)] h3 _
  refine jv_astore_n (L' := [some (.ref (jv_ad X 13)), some (.ref (q1)), none, none, none, none, none]) (jv_dk t_L_law (k := 3) rfl) rfl (Nat.le_of_ble_eq_true rfl) (Or.inr ⟨_, rfl⟩) rfl ?_
  refine jv_new (jv_dk t_L_law (k := 4) rfl) kX13 ck_L_68 ib_X13 iz_X13 df_X13 (fun q4 h5 => ?_)
  refine jv_dup (jv_dk t_L_law (k := 5) rfl) rfl ?_
  refine jv_callI (en' := jeV) (pv := jpV) (As := []) (S := [.ref (q4)]) (jv_dk t_L_law (k := 6) rfl) (fun _ => rfl) (Or.inl lk_L_70) me_X13_init mi_X13_init rfl rfl ⟨by decide, by decide⟩ rfl rfl (Nat.le_of_ble_eq_true rfl) (P_X13_init X q4 h5) (fun _ h6 => ?_)
  show jv_O X M_L_law _ jeI 15 [some (.ref (jv_ad X 13)), some (.ref (q1)), none, none, none, none, none] [.ref (q4)] h6 _
  refine jv_astore_n (L' := [some (.ref (jv_ad X 13)), some (.ref (q1)), some (.ref (q4)), none, none, none, none]) (jv_dk t_L_law (k := 7) rfl) rfl (Nat.le_of_ble_eq_true rfl) (Or.inr ⟨_, rfl⟩) rfl ?_
  refine jv_iconst (v := 1) (jv_dk t_L_law (k := 8) rfl) (by decide) ?_
  refine jv_newL (jv_dk t_L_law (k := 9) rfl) ac_J (fun q7 h8 => ?_)
  refine jv_astore_n (L' := [some (.ref (jv_ad X 13)), some (.ref (q1)), some (.ref (q4)), some (.ref (q7)), none, none, none]) (jv_dk t_L_law (k := 10) rfl) rfl (Nat.le_of_ble_eq_true rfl) (Or.inr ⟨_, rfl⟩) rfl ?_
  refine jv_iconst (v := 0) (jv_dk t_L_law (k := 11) rfl) (by decide) ?_
  refine jv_istore (L' := [some (.ref (jv_ad X 13)), some (.ref (q1)), some (.ref (q4)), some (.ref (q7)), some (.int (0)), none, none]) (jv_dk t_L_law (k := 12) rfl) (Nat.le_of_ble_eq_true rfl) rfl ?_
  refine o_f_L_law_h23 (fun  h422 => ?_) _ _ _ _ _ 
  show jv_O X M_L_law _ jeI 1935 [none, none, none, none, none, none, none] [] h422 _
  refine jv_iconst (v := 1) (jv_dk t_L_law (k := 1205) rfl) (by decide) ?_
  exact jv_iret (ty := .boolean) (jv_dk t_L_law (k := 1206) rfl) rfl rfl rfl
