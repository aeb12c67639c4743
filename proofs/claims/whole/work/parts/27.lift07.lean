def t0_X12_needProcess : List (Nat × Instr × Nat) := [(0, .aload_n 0, 1), (1, .getfield 10, 3), (4, .getfield 82, 3), (7, .getfield 97, 3), (10, .iload_n 1, 1), (11, .invokevirtual 377, 3), (14, .ifCond .ne 11, 3), (17, .new 146, 3), (20, .dup, 1), (21, .invokespecial 148, 3), (24, .athrow, 1), (25, .return_, 1)]
theorem t_X12_needProcess : jv_dec cX12_needProcess t0_X12_needProcess = true := by decide +kernel
def M_X12_needProcess : jm := (yX12_needProcess, cX12_needProcess, 2, none, 6, 100, [])
theorem lk_X12_377 : jv_lk RX12 377 M_X5_has := Or.inr ⟨"SpaceWarden", (jv_at 1143 (by decide +kernel))⟩
def f_X12_needProcess (a0 : Nat) (a1 : Int32) (h : jh) : Option ((Unit ⊕ String) × jh) :=
  gR h a0 10 0 fun v1 =>
  gR h v1 6 0 fun v2 =>
  gR h v2 9 0 fun v3 =>
  cV h v3 3 (f_X5_has v3 a1 h) fun v4 h5 =>
  (if ¬ v4 = 0 then
  some (.inl (), h5)
  else
  some (.inr "java/util/NoSuchElementException", jt h5))
theorem P_X12_needProcess (X : jx) (a0 : Nat) (a1 : Int32) (h : jh) : jv_P X M_X12_needProcess jeVX [.ref (a0), .int (a1)] h (f_X12_needProcess a0 a1 h) := by
  refine jv_P.of (by decide) rfl (by simp [Value.category]) (Nat.le_of_ble_eq_true rfl) ?_
  show jv_O X M_X12_needProcess (h.1, h.2.1) jeVX 0 [some (.ref (a0)), some (.int (a1))] [] h (f_X12_needProcess a0 a1 h)
  unfold f_X12_needProcess
  refine jv_aload_n (jv_dk t_X12_needProcess (k := 0) rfl) rfl rfl (Or.inr ⟨_, rfl⟩) ?_
  refine jv_gR (jv_dk t_X12_needProcess (k := 1) rfl) fl_X12_10 (fun v1 => ?_)
  refine jv_gR (jv_dk t_X12_needProcess (k := 2) rfl) fl_X12_82 (fun v2 => ?_)
  refine jv_gR (jv_dk t_X12_needProcess (k := 3) rfl) fl_X12_97 (fun v3 => ?_)
  refine jv_iload_n (jv_dk t_X12_needProcess (k := 4) rfl) rfl rfl ?_
  refine jv_callV (en' := jeI) (pv := jpI) (As := [.int (a1)]) (S := []) (jv_dk t_X12_needProcess (k := 5) rfl) (fun _ => rfl) lk_X12_377 me_X5_has mv_X5_has ⟨by decide, by decide⟩ rfl rfl rfl (Nat.le_of_ble_eq_true rfl) (P_X5_has X v3 a1 h) (fun v4 h5 => ?_)
  show jv_O X M_X12_needProcess _ jeVX 14 [some (.ref (a0)), some (.int (a1))] [.int (v4)] h5 _
  refine jv_if_ne (tgt := 25) (jv_dk t_X12_needProcess (k := 6) rfl) rfl (fun c6 => ?_) (fun c6 => ?_)
  · exact jv_vret (jv_dk t_X12_needProcess (k := 11) rfl) rfl rfl
  · show jv_O _ _ _ _ 17 _ _ _ _
    exact jv_throw (jv_dk t_X12_needProcess (k := 7) rfl) (jv_dk t_X12_needProcess (k := 8) rfl) (jv_dk t_X12_needProcess (k := 9) rfl) (jv_dk t_X12_needProcess (k := 10) rfl) rfl rfl (by decide) tw_146_148 (Nat.le_of_ble_eq_true rfl) ⟨by decide, by decide⟩ rfl
def t0_X12_process : List (Nat × Instr × Nat) := [(0, .aload_n 0, 1), (1, .iload_n 1, 1), (2, .invokevirtual 149, 3), (5, .aload_n 0, 1), (6, .getfield 10, 3), (9, .getfield 82, 3), (12, .astore_n 3, 1), (13, .aload_n 3, 1), (14, .getfield 97, 3), (17, .astore 4, 2), (19, .iload_n 2, 1), (20, .tableswitch 159 0 9 #[56, 64, 72, 80, 88, 96, 110, 118, 140, 150], 56), (76, .aload 4, 2), (78, .getfield 152, 3), (81, .iload_n 1, 1), (82, .iaload, 1), (83, .ireturn, 1), (84, .aload 4, 2), (86, .getfield 155, 3), (89, .iload_n 1, 1), (90, .iaload, 1), (91, .ireturn, 1), (92, .aload 4, 2), (94, .getfield 158, 3), (97, .iload_n 1, 1), (98, .iaload, 1), (99, .ireturn, 1), (100, .aload 4, 2), (102, .getfield 161, 3), (105, .iload_n 1, 1), (106, .iaload, 1), (107, .ireturn, 1), (108, .aload 4, 2), (110, .getfield 164, 3), (113, .iload_n 1, 1), (114, .iaload, 1), (115, .ireturn, 1), (116, .aload 4, 2), (118, .iload_n 1, 1), (119, .aload 4, 2), (121, .getfield 155, 3), (124, .iload_n 1, 1), (125, .iaload, 1), (126, .invokevirtual 167, 3), (129, .ireturn, 1), (130, .aload 4, 2), (132, .getfield 171, 3), (135, .iload_n 1, 1), (136, .iaload, 1), (137, .ireturn, 1), (138, .aload_n 3, 1), (139, .getfield 125, 3), (142, .aload 4, 2), (144, .getfield 158, 3), (147, .iload_n 1, 1), (148, .iaload, 1), (149, .aload 4, 2), (151, .getfield 171, 3), (154, .iload_n 1, 1), (155, .iaload, 1), (156, .invokevirtual 174, 3), (159, .ireturn, 1), (160, .aload 4, 2), (162, .iload_n 1, 1), (163, .invokevirtual 177, 3), (166, .invokestatic 181, 3), (169, .ireturn, 1), (170, .aload_n 3, 1), (171, .iload_n 1, 1), (172, .invokevirtual 185, 3), (175, .invokestatic 181, 3), (178, .ireturn, 1), (179, .new 146, 3), (182, .dup, 1), (183, .invokespecial 148, 3), (186, .athrow, 1)]
theorem t_X12_process : jv_dec cX12_process t0_X12_process = true := by decide +kernel
def M_X12_process : jm := (yX12_process, cX12_process, 5, (some .int), 7, 121, [])
theorem lk_X12_149 : Cond.methodLink RX12 149 M_X12_needProcess.1 ∈ lw_tbl := (jv_at 1139 (by decide +kernel))
set_option maxRecDepth 20000 in
theorem me_X12_needProcess : jv_me M_X12_needProcess 1 := ⟨(jv_in5 (List.mem_of_getElem? (i := 22) rfl)), (jv_at 161 (by decide +kernel)), ⟨by decide, by decide⟩, by decide +kernel⟩
theorem lk_X12_185 : jv_lk RX12 185 M_X11_isInit := Or.inr ⟨"SpaceWarden", (jv_at 1148 (by decide +kernel))⟩
theorem lk_X12_181 : Cond.methodLink RX12 181 M_X12_bit.1 ∈ lw_tbl := (jv_at 1147 (by decide +kernel))
theorem lk_X12_177 : jv_lk RX12 177 M_X5_hasPower := Or.inr ⟨"SpaceWarden", (jv_at 1146 (by decide +kernel))⟩
theorem fl_X12_158 : jv_F RX12 158 3 2 RX5 TX5 9 := ⟨rfl, by decide, inX5, Or.inr ⟨"SpaceWarden", (jv_at 222 (by decide +kernel))⟩⟩
theorem fl_X12_171 : jv_F RX12 171 3 5 RX5 TX5 9 := ⟨rfl, by decide, inX5, Or.inr ⟨"SpaceWarden", (jv_at 233 (by decide +kernel))⟩⟩
theorem lk_X12_174 : jv_lk RX12 174 M_X10_inward := Or.inr ⟨"SpaceWarden", (jv_at 1145 (by decide +kernel))⟩
theorem fl_X12_155 : jv_F RX12 155 3 1 RX5 TX5 9 := ⟨rfl, by decide, inX5, Or.inr ⟨"SpaceWarden", (jv_at 218 (by decide +kernel))⟩⟩
theorem lk_X12_167 : jv_lk RX12 167 M_X5_numberOf := Or.inr ⟨"SpaceWarden", (jv_at 1144 (by decide +kernel))⟩
theorem fl_X12_164 : jv_F RX12 164 3 4 RX5 TX5 9 := ⟨rfl, by decide, inX5, Or.inr ⟨"SpaceWarden", (jv_at 229 (by decide +kernel))⟩⟩
theorem fl_X12_161 : jv_F RX12 161 3 3 RX5 TX5 9 := ⟨rfl, by decide, inX5, Or.inr ⟨"SpaceWarden", (jv_at 226 (by decide +kernel))⟩⟩
theorem fl_X12_152 : jv_F RX12 152 3 0 RX5 TX5 9 := ⟨rfl, by decide, inX5, Or.inr ⟨"SpaceWarden", (jv_at 215 (by decide +kernel))⟩⟩
theorem mv_X12_needProcess : jv_mv M_X12_needProcess := ⟨(jv_at 1141 (by decide +kernel)), (jv_at 77 (by decide +kernel))⟩
def f_X12_process (a0 : Nat) (a1 : Int32) (a2 : Int32) (h : jh) : Option ((Int32 ⊕ String) × jh) :=
  cVX h a0 10 (f_X12_needProcess a0 a1 h) fun _ h1 =>
  gR h1 a0 10 0 fun v2 =>
  gR h1 v2 6 0 fun v3 =>
  gR h1 v3 9 0 fun v4 =>
  (if a2 = 0 then
  gR h1 v4 3 0 fun v44 =>
  aI h1 v44 a1 fun v45 =>
  some (.inl v45, h1)
  else
  (if a2 = 1 then
  gR h1 v4 3 1 fun v42 =>
  aI h1 v42 a1 fun v43 =>
  some (.inl v43, h1)
  else
  (if a2 = 2 then
  gR h1 v4 3 2 fun v40 =>
  aI h1 v40 a1 fun v41 =>
  some (.inl v41, h1)
  else
  (if a2 = 3 then
  gR h1 v4 3 3 fun v38 =>
  aI h1 v38 a1 fun v39 =>
  some (.inl v39, h1)
  else
  (if a2 = 4 then
  gR h1 v4 3 4 fun v36 =>
  aI h1 v36 a1 fun v37 =>
  some (.inl v37, h1)
  else
  (if a2 = 5 then
  gR h1 v4 3 1 fun v32 =>
  aI h1 v32 a1 fun v33 =>
  cV h1 v4 3 (f_X5_numberOf v4 a1 v33 h1) fun v34 h35 =>
  some (.inl v34, h35)
  else
  (if a2 = 6 then
  gR h1 v4 3 5 fun v30 =>
  aI h1 v30 a1 fun v31 =>
  some (.inl v31, h1)
  else
  (if a2 = 7 then
  gR h1 v3 9 2 fun v23 =>
  gR h1 v4 3 2 fun v24 =>
  aI h1 v24 a1 fun v25 =>
  gR h1 v4 3 5 fun v26 =>
  aI h1 v26 a1 fun v27 =>
  cV h1 v23 8 (f_X10_inward v23 v25 v27 h1) fun v28 h29 =>
  some (.inl v28, h29)
  else
  (if a2 = 8 then
  cV h1 v4 3 (f_X5_hasPower v4 a1 h1) fun v19 h20 =>
  bd (f_X12_bit v19 h20) fun v21 h22 =>
  some (.inl v21, h22)
  else
  (if a2 = 9 then
  cV h1 v3 9 (f_X11_isInit v3 a1 h1) fun v15 h16 =>
  bd (f_X12_bit v15 h16) fun v17 h18 =>
  some (.inl v17, h18)
  else
  some (.inr "java/util/NoSuchElementException", jt h1)))))))))))
theorem P_X12_process (X : jx) (a0 : Nat) (a1 : Int32) (a2 : Int32) (h : jh) : jv_P X M_X12_process jeIX [.ref (a0), .int (a1), .int (a2)] h (f_X12_process a0 a1 a2 h) := by
  refine jv_P.of (by decide) rfl (by simp [Value.category]) (Nat.le_of_ble_eq_true rfl) ?_
  show jv_O X M_X12_process (h.1, h.2.1) jeIX 0 [some (.ref (a0)), some (.int (a1)), some (.int (a2)), none, none] [] h (f_X12_process a0 a1 a2 h)
  unfold f_X12_process
  refine jv_aload_n (jv_dk t_X12_process (k := 0) rfl) rfl rfl (Or.inr ⟨_, rfl⟩) ?_
  refine jv_iload_n (jv_dk t_X12_process (k := 1) rfl) rfl rfl ?_
  refine jv_callVX (en' := jeVX) (pv := jpV) (As := [.int (a1)]) (S := []) (jv_dk t_X12_process (k := 2) rfl) (fun _ => rfl) (fun _ => rfl) (fun _ => rfl) rfl lk_X12_149 me_X12_needProcess mv_X12_needProcess ⟨by decide, by decide⟩ rfl rfl rfl (Nat.le_of_ble_eq_true rfl) (P_X12_needProcess X a0 a1 h) (fun _ h1 => ?_)
  show jv_O X M_X12_process _ jeIX 5 [some (.ref (a0)), some (.int (a1)), some (.int (a2)), none, none] [] h1 _
  refine jv_aload_n (jv_dk t_X12_process (k := 3) rfl) rfl rfl (Or.inr ⟨_, rfl⟩) ?_
  refine jv_gR (jv_dk t_X12_process (k := 4) rfl) fl_X12_10 (fun v2 => ?_)
  refine jv_gR (jv_dk t_X12_process (k := 5) rfl) fl_X12_82 (fun v3 => ?_)
  refine jv_astore_n (L' := [some (.ref (a0)), some (.int (a1)), some (.int (a2)), some (.ref (v3)), none]) (jv_dk t_X12_process (k := 6) rfl) rfl (Nat.le_of_ble_eq_true rfl) (Or.inr ⟨_, rfl⟩) rfl ?_
  refine jv_aload_n (jv_dk t_X12_process (k := 7) rfl) rfl rfl (Or.inr ⟨_, rfl⟩) ?_
  refine jv_gR (jv_dk t_X12_process (k := 8) rfl) fl_X12_97 (fun v4 => ?_)
  refine jv_astore (L' := [some (.ref (a0)), some (.int (a1)), some (.int (a2)), some (.ref (v3)), some (.ref (v4))]) (jv_dk t_X12_process (k := 9) rfl) (Nat.le_of_ble_eq_true rfl) (Or.inr ⟨_, rfl⟩) rfl ?_
  refine jv_iload_n (jv_dk t_X12_process (k := 10) rfl) rfl rfl ?_
  by_cases c5 : a2 = 0
  · rw [if_pos c5]
    refine jv_tbl (tgt := 76) (jv_dk t_X12_process (k := 11) rfl) (by rw [c5] <;> decide) (by rw [c5] <;> decide) (by rw [c5] <;> rfl) rfl ?_
    refine jv_aload (jv_dk t_X12_process (k := 12) rfl) rfl (Or.inr ⟨_, rfl⟩) ?_
    refine jv_gR (jv_dk t_X12_process (k := 13) rfl) fl_X12_152 (fun v44 => ?_)
    refine jv_iload_n (jv_dk t_X12_process (k := 14) rfl) rfl rfl ?_
    refine jv_iaload (jv_dk t_X12_process (k := 15) rfl) (fun v45 => ?_)
    exact jv_iret (ty := .int) (jv_dk t_X12_process (k := 16) rfl) rfl rfl rfl
  rw [if_neg c5]
  by_cases c6 : a2 = 1
  · rw [if_pos c6]
    refine jv_tbl (tgt := 84) (jv_dk t_X12_process (k := 11) rfl) (by rw [c6] <;> decide) (by rw [c6] <;> decide) (by rw [c6] <;> rfl) rfl ?_
    refine jv_aload (jv_dk t_X12_process (k := 17) rfl) rfl (Or.inr ⟨_, rfl⟩) ?_
    refine jv_gR (jv_dk t_X12_process (k := 18) rfl) fl_X12_155 (fun v42 => ?_)
    refine jv_iload_n (jv_dk t_X12_process (k := 19) rfl) rfl rfl ?_
    refine jv_iaload (jv_dk t_X12_process (k := 20) rfl) (fun v43 => ?_)
    exact jv_iret (ty := .int) (jv_dk t_X12_process (k := 21) rfl) rfl rfl rfl
  rw [if_neg c6]
  by_cases c7 : a2 = 2
  · rw [if_pos c7]
    refine jv_tbl (tgt := 92) (jv_dk t_X12_process (k := 11) rfl) (by rw [c7] <;> decide) (by rw [c7] <;> decide) (by rw [c7] <;> rfl) rfl ?_
    refine jv_aload (jv_dk t_X12_process (k := 22) rfl) rfl (Or.inr ⟨_, rfl⟩) ?_
    refine jv_gR (jv_dk t_X12_process (k := 23) rfl) fl_X12_158 (fun v40 => ?_)
    refine jv_iload_n (jv_dk t_X12_process (k := 24) rfl) rfl rfl ?_
    refine jv_iaload (jv_dk t_X12_process (k := 25) rfl) (fun v41 => ?_)
    exact jv_iret (ty := .int) (jv_dk t_X12_process (k := 26) rfl) rfl rfl rfl
  rw [if_neg c7]
  by_cases c8 : a2 = 3
  · rw [if_pos c8]
    refine jv_tbl (tgt := 100) (jv_dk t_X12_process (k := 11) rfl) (by rw [c8] <;> decide) (by rw [c8] <;> decide) (by rw [c8] <;> rfl) rfl ?_
    refine jv_aload (jv_dk t_X12_process (k := 27) rfl) rfl (Or.inr ⟨_, rfl⟩) ?_
    refine jv_gR (jv_dk t_X12_process (k := 28) rfl) fl_X12_161 (fun v38 => ?_)
    refine jv_iload_n (jv_dk t_X12_process (k := 29) rfl) rfl rfl ?_
    refine jv_iaload (jv_dk t_X12_process (k := 30) rfl) (fun v39 => ?_)
    exact jv_iret (ty := .int) (jv_dk t_X12_process (k := 31) rfl) rfl rfl rfl
  rw [if_neg c8]
  by_cases c9 : a2 = 4
  · rw [if_pos c9]
    refine jv_tbl (tgt := 108) (jv_dk t_X12_process (k := 11) rfl) (by rw [c9] <;> decide) (by rw [c9] <;> decide) (by rw [c9] <;> rfl) rfl ?_
    refine jv_aload (jv_dk t_X12_process (k := 32) rfl) rfl (Or.inr ⟨_, rfl⟩) ?_
    refine jv_gR (jv_dk t_X12_process (k := 33) rfl) fl_X12_164 (fun v36 => ?_)
    refine jv_iload_n (jv_dk t_X12_process (k := 34) rfl) rfl rfl ?_
    refine jv_iaload (jv_dk t_X12_process (k := 35) rfl) (fun v37 => ?_)
    exact jv_iret (ty := .int) (jv_dk t_X12_process (k := 36) rfl) rfl rfl rfl
  rw [if_neg c9]
  by_cases c10 : a2 = 5
  · rw [if_pos c10]
    refine jv_tbl (tgt := 116) (jv_dk t_X12_process (k := 11) rfl) (by rw [c10] <;> decide) (by rw [c10] <;> decide) (by rw [c10] <;> rfl) rfl ?_
    refine jv_aload (jv_dk t_X12_process (k := 37) rfl) rfl (Or.inr ⟨_, rfl⟩) ?_
    refine jv_iload_n (jv_dk t_X12_process (k := 38) rfl) rfl rfl ?_
    refine jv_aload (jv_dk t_X12_process (k := 39) rfl) rfl (Or.inr ⟨_, rfl⟩) ?_
    refine jv_gR (jv_dk t_X12_process (k := 40) rfl) fl_X12_155 (fun v32 => ?_)
    refine jv_iload_n (jv_dk t_X12_process (k := 41) rfl) rfl rfl ?_
    refine jv_iaload (jv_dk t_X12_process (k := 42) rfl) (fun v33 => ?_)
    refine jv_callV (en' := jeI) (pv := jpI) (As := [.int (a1), .int (v33)]) (S := []) (jv_dk t_X12_process (k := 43) rfl) (fun _ => rfl) lk_X12_167 me_X5_numberOf mv_X5_numberOf ⟨by decide, by decide⟩ rfl rfl rfl (Nat.le_of_ble_eq_true rfl) (P_X5_numberOf X v4 a1 v33 h1) (fun v34 h35 => ?_)
    show jv_O X M_X12_process _ jeIX 129 [some (.ref (a0)), some (.int (a1)), some (.int (a2)), some (.ref (v3)), some (.ref (v4))] [.int (v34)] h35 _
    exact jv_iret (ty := .int) (jv_dk t_X12_process (k := 44) rfl) rfl rfl rfl
  rw [if_neg c10]
  by_cases c11 : a2 = 6
  · rw [if_pos c11]
    refine jv_tbl (tgt := 130) (jv_dk t_X12_process (k := 11) rfl) (by rw [c11] <;> decide) (by rw [c11] <;> decide) (by rw [c11] <;> rfl) rfl ?_
    refine jv_aload (jv_dk t_X12_process (k := 45) rfl) rfl (Or.inr ⟨_, rfl⟩) ?_
    refine jv_gR (jv_dk t_X12_process (k := 46) rfl) fl_X12_171 (fun v30 => ?_)
    refine jv_iload_n (jv_dk t_X12_process (k := 47) rfl) rfl rfl ?_
    refine jv_iaload (jv_dk t_X12_process (k := 48) rfl) (fun v31 => ?_)
    exact jv_iret (ty := .int) (jv_dk t_X12_process (k := 49) rfl) rfl rfl rfl
  rw [if_neg c11]
  by_cases c12 : a2 = 7
  · rw [if_pos c12]
    refine jv_tbl (tgt := 138) (jv_dk t_X12_process (k := 11) rfl) (by rw [c12] <;> decide) (by rw [c12] <;> decide) (by rw [c12] <;> rfl) rfl ?_
    refine jv_aload_n (jv_dk t_X12_process (k := 50) rfl) rfl rfl (Or.inr ⟨_, rfl⟩) ?_
    refine jv_gR (jv_dk t_X12_process (k := 51) rfl) fl_X12_125 (fun v23 => ?_)
    refine jv_aload (jv_dk t_X12_process (k := 52) rfl) rfl (Or.inr ⟨_, rfl⟩) ?_
    refine jv_gR (jv_dk t_X12_process (k := 53) rfl) fl_X12_158 (fun v24 => ?_)
    refine jv_iload_n (jv_dk t_X12_process (k := 54) rfl) rfl rfl ?_
    refine jv_iaload (jv_dk t_X12_process (k := 55) rfl) (fun v25 => ?_)
    refine jv_aload (jv_dk t_X12_process (k := 56) rfl) rfl (Or.inr ⟨_, rfl⟩) ?_
    refine jv_gR (jv_dk t_X12_process (k := 57) rfl) fl_X12_171 (fun v26 => ?_)
    refine jv_iload_n (jv_dk t_X12_process (k := 58) rfl) rfl rfl ?_
    refine jv_iaload (jv_dk t_X12_process (k := 59) rfl) (fun v27 => ?_)
    refine jv_callV (en' := jeI) (pv := jpI) (As := [.int (v25), .int (v27)]) (S := []) (jv_dk t_X12_process (k := 60) rfl) (fun _ => rfl) lk_X12_174 me_X10_inward mv_X10_inward ⟨by decide, by decide⟩ rfl rfl rfl (Nat.le_of_ble_eq_true rfl) (P_X10_inward X v23 v25 v27 h1) (fun v28 h29 => ?_)
    show jv_O X M_X12_process _ jeIX 159 [some (.ref (a0)), some (.int (a1)), some (.int (a2)), some (.ref (v3)), some (.ref (v4))] [.int (v28)] h29 _
    exact jv_iret (ty := .int) (jv_dk t_X12_process (k := 61) rfl) rfl rfl rfl
  rw [if_neg c12]
  by_cases c13 : a2 = 8
  · rw [if_pos c13]
    refine jv_tbl (tgt := 160) (jv_dk t_X12_process (k := 11) rfl) (by rw [c13] <;> decide) (by rw [c13] <;> decide) (by rw [c13] <;> rfl) rfl ?_
    refine jv_aload (jv_dk t_X12_process (k := 62) rfl) rfl (Or.inr ⟨_, rfl⟩) ?_
    refine jv_iload_n (jv_dk t_X12_process (k := 63) rfl) rfl rfl ?_
    refine jv_callV (en' := jeI) (pv := jpI) (As := [.int (a1)]) (S := []) (jv_dk t_X12_process (k := 64) rfl) (fun _ => rfl) lk_X12_177 me_X5_hasPower mv_X5_hasPower ⟨by decide, by decide⟩ rfl rfl rfl (Nat.le_of_ble_eq_true rfl) (P_X5_hasPower X v4 a1 h1) (fun v19 h20 => ?_)
    show jv_O X M_X12_process _ jeIX 166 [some (.ref (a0)), some (.int (a1)), some (.int (a2)), some (.ref (v3)), some (.ref (v4))] [.int (v19)] h20 _
    refine jv_callS (en' := jeI) (pv := jpI) (As := [.int (v19)]) (S := []) (jv_dk t_X12_process (k := 65) rfl) (fun _ => rfl) (Or.inl lk_X12_181) me_X12_bit ms_X12_bit ⟨by decide, by decide⟩ rfl rfl (Nat.le_of_ble_eq_true rfl) (P_X12_bit X v19 h20) (fun v21 h22 => ?_)
    show jv_O X M_X12_process _ jeIX 169 [some (.ref (a0)), some (.int (a1)), some (.int (a2)), some (.ref (v3)), some (.ref (v4))] [.int (v21)] h22 _
    exact jv_iret (ty := .int) (jv_dk t_X12_process (k := 66) rfl) rfl rfl rfl
  rw [if_neg c13]
  by_cases c14 : a2 = 9
  · rw [if_pos c14]
    refine jv_tbl (tgt := 170) (jv_dk t_X12_process (k := 11) rfl) (by rw [c14] <;> decide) (by rw [c14] <;> decide) (by rw [c14] <;> rfl) rfl ?_
    refine jv_aload_n (jv_dk t_X12_process (k := 67) rfl) rfl rfl (Or.inr ⟨_, rfl⟩) ?_
    refine jv_iload_n (jv_dk t_X12_process (k := 68) rfl) rfl rfl ?_
    refine jv_callV (en' := jeI) (pv := jpI) (As := [.int (a1)]) (S := []) (jv_dk t_X12_process (k := 69) rfl) (fun _ => rfl) lk_X12_185 me_X11_isInit mv_X11_isInit ⟨by decide, by decide⟩ rfl rfl rfl (Nat.le_of_ble_eq_true rfl) (P_X11_isInit X v3 a1 h1) (fun v15 h16 => ?_)
    show jv_O X M_X12_process _ jeIX 175 [some (.ref (a0)), some (.int (a1)), some (.int (a2)), some (.ref (v3)), some (.ref (v4))] [.int (v15)] h16 _
    refine jv_callS (en' := jeI) (pv := jpI) (As := [.int (v15)]) (S := []) (jv_dk t_X12_process (k := 70) rfl) (fun _ => rfl) (Or.inl lk_X12_181) me_X12_bit ms_X12_bit ⟨by decide, by decide⟩ rfl rfl (Nat.le_of_ble_eq_true rfl) (P_X12_bit X v15 h16) (fun v17 h18 => ?_)
    show jv_O X M_X12_process _ jeIX 178 [some (.ref (a0)), some (.int (a1)), some (.int (a2)), some (.ref (v3)), some (.ref (v4))] [.int (v17)] h18 _
    exact jv_iret (ty := .int) (jv_dk t_X12_process (k := 71) rfl) rfl rfl rfl
  rw [if_neg c14]
  have e_c5 := jv_ne (x := a2) (k := 0) (by decide) (by decide) c5
  have e_c6 := jv_ne (x := a2) (k := 1) (by decide) (by decide) c6
  have e_c7 := jv_ne (x := a2) (k := 2) (by decide) (by decide) c7
  have e_c8 := jv_ne (x := a2) (k := 3) (by decide) (by decide) c8
  have e_c9 := jv_ne (x := a2) (k := 4) (by decide) (by decide) c9
  have e_c10 := jv_ne (x := a2) (k := 5) (by decide) (by decide) c10
  have e_c11 := jv_ne (x := a2) (k := 6) (by decide) (by decide) c11
  have e_c12 := jv_ne (x := a2) (k := 7) (by decide) (by decide) c12
  have e_c13 := jv_ne (x := a2) (k := 8) (by decide) (by decide) c13
  have e_c14 := jv_ne (x := a2) (k := 9) (by decide) (by decide) c14
  refine jv_tblOut (tgt := 179) (jv_dk t_X12_process (k := 11) rfl) (by omega) rfl ?_
  exact jv_throw (jv_dk t_X12_process (k := 72) rfl) (jv_dk t_X12_process (k := 73) rfl) (jv_dk t_X12_process (k := 74) rfl) (jv_dk t_X12_process (k := 75) rfl) rfl rfl (by decide) tw_146_148 (Nat.le_of_ble_eq_true rfl) ⟨by decide, by decide⟩ rfl
def t0_X12_space : List (Nat × Instr × Nat) := [(0, .aload_n 0, 1), (1, .getfield 10, 3), (4, .getfield 82, 3), (7, .iload_n 1, 1), (8, .invokevirtual 188, 3), (11, .astore 4, 2), (13, .aload 4, 2), (15, .ifnull 12, 3), (18, .aload 4, 2), (20, .iload_n 2, 1), (21, .invokevirtual 192, 3), (24, .ifCond .ne 11, 3), (27, .new 146, 3), (30, .dup, 1), (31, .invokespecial 148, 3), (34, .athrow, 1), (35, .iload_n 3, 1), (36, .tableswitch 151 0 6 #[44, 51, 58, 71, 87, 100, 127], 44), (80, .aload 4, 2), (82, .iload_n 2, 1), (83, .invokevirtual 195, 3), (86, .ireturn, 1), (87, .aload 4, 2), (89, .iload_n 2, 1), (90, .invokevirtual 198, 3), (93, .ireturn, 1), (94, .aload_n 0, 1), (95, .getfield 10, 3), (98, .getfield 82, 3), (101, .iload_n 1, 1), (102, .iload_n 2, 1), (103, .invokevirtual 201, 3), (106, .ireturn, 1), (107, .aload_n 0, 1), (108, .getfield 10, 3), (111, .getfield 82, 3), (114, .getfield 97, 3), (117, .iload_n 1, 1), (118, .iload_n 2, 1), (119, .invokevirtual 204, 3), (122, .ireturn, 1), (123, .aload_n 0, 1), (124, .getfield 10, 3), (127, .getfield 82, 3), (130, .iload_n 1, 1), (131, .iload_n 2, 1), (132, .invokevirtual 207, 3), (135, .ireturn, 1), (136, .iload_n 1, 1), (137, .iconst 2, 1), (138, .if_icmp .ne 23, 3), (141, .aload_n 0, 1), (142, .getfield 10, 3), (145, .getfield 82, 3), (148, .getfield 132, 3), (151, .iload_n 2, 1), (152, .invokevirtual 210, 3), (155, .invokestatic 181, 3), (158, .goto 4, 3), (161, .iconst 0, 1), (162, .ireturn, 1), (163, .iload_n 1, 1), (164, .iconst 2, 1), (165, .if_icmp .ne 20, 3), (168, .aload_n 0, 1), (169, .getfield 10, 3), (172, .getfield 82, 3), (175, .getfield 132, 3), (178, .iload_n 2, 1), (179, .invokevirtual 213, 3), (182, .goto 4, 3), (185, .iconst 0, 1), (186, .ireturn, 1), (187, .new 146, 3), (190, .dup, 1), (191, .invokespecial 148, 3), (194, .athrow, 1)]
theorem t_X12_space : jv_dec cX12_space t0_X12_space = true := by decide +kernel
def M_X12_space : jm := (yX12_space, cX12_space, 5, (some .int), 6, 100, [])
theorem lk_X12_188 : jv_lk RX12 188 M_X11_treeOf := Or.inr ⟨"SpaceWarden", (jv_at 1156 (by decide +kernel))⟩
set_option maxRecDepth 20000 in
theorem me_X11_treeOf : jv_me M_X11_treeOf 1 := ⟨(jv_in5 (List.mem_of_getElem? (i := 39) rfl)), (jv_at 163 (by decide +kernel)), ⟨by decide, by decide⟩, by decide +kernel⟩
theorem lk_X12_192 : jv_lk RX12 192 M_X9_has := Or.inr ⟨"SpaceWarden", (jv_at 888 (by decide +kernel))⟩
theorem lk_X12_213 : jv_lk RX12 213 M_X2_spread := Or.inr ⟨"SpaceWarden", (jv_at 1179 (by decide +kernel))⟩
theorem lk_X12_210 : jv_lk RX12 210 M_X2_isShared := Or.inr ⟨"SpaceWarden", (jv_at 1178 (by decide +kernel))⟩
theorem lk_X12_207 : jv_lk RX12 207 M_X11_contentOf := Or.inr ⟨"SpaceWarden", (jv_at 1170 (by decide +kernel))⟩
set_option maxRecDepth 20000 in
theorem me_X11_contentOf : jv_me M_X11_contentOf 2 := ⟨(jv_in5 (List.mem_of_getElem? (i := 53) rfl)), (jv_at 163 (by decide +kernel)), ⟨by decide, by decide⟩, by decide +kernel⟩
theorem mv_X11_contentOf : jv_mv M_X11_contentOf := ⟨(jv_at 1172 (by decide +kernel)), (jv_at 81 (by decide +kernel))⟩
theorem lk_X12_204 : jv_lk RX12 204 M_X5_howManyIn := Or.inr ⟨"SpaceWarden", (jv_at 1166 (by decide +kernel))⟩
set_option maxRecDepth 20000 in
theorem me_X5_howManyIn : jv_me M_X5_howManyIn 2 := ⟨(jv_in5 (List.mem_of_getElem? (i := 49) rfl)), (jv_at 164 (by decide +kernel)), ⟨by decide, by decide⟩, by decide +kernel⟩
theorem mv_X5_howManyIn : jv_mv M_X5_howManyIn := ⟨(jv_at 1168 (by decide +kernel)), (jv_at 80 (by decide +kernel))⟩
theorem lk_X12_201 : jv_lk RX12 201 M_X11_keeperOf := Or.inr ⟨"SpaceWarden", (jv_at 1162 (by decide +kernel))⟩
set_option maxRecDepth 20000 in
theorem me_X11_keeperOf : jv_me M_X11_keeperOf 2 := ⟨(jv_in5 (List.mem_of_getElem? (i := 45) rfl)), (jv_at 163 (by decide +kernel)), ⟨by decide, by decide⟩, by decide +kernel⟩
theorem mv_X11_keeperOf : jv_mv M_X11_keeperOf := ⟨(jv_at 1164 (by decide +kernel)), (jv_at 79 (by decide +kernel))⟩
theorem lk_X12_198 : jv_lk RX12 198 M_X9_depth := Or.inr ⟨"SpaceWarden", (jv_at 1161 (by decide +kernel))⟩
theorem lk_X12_195 : jv_lk RX12 195 M_X9_around := Or.inr ⟨"SpaceWarden", (jv_at 1160 (by decide +kernel))⟩
theorem mv_X11_treeOf : jv_mv M_X11_treeOf := ⟨(jv_at 1158 (by decide +kernel)), (jv_at 78 (by decide +kernel))⟩
def f_X12_space (a0 : Nat) (a1 : Int32) (a2 : Int32) (a3 : Int32) (h : jh) : Option ((Int32 ⊕ String) × jh) :=
  gR h a0 10 0 fun v1 =>
  gR h v1 6 0 fun v2 =>
  cV h v2 9 (f_X11_treeOf v2 a1 h) fun v3 h4 =>
  nq v3 (some (.inr "java/util/NoSuchElementException", jt h4)) fun r5 =>
  cV h4 r5 7 (f_X9_has r5 a2 h4) fun v6 h7 =>
  (if ¬ v6 = 0 then
  (if a3 = 0 then
  cV h7 r5 7 (f_X9_around r5 a2 h7) fun v45 h46 =>
  some (.inl v45, h46)
  else
  (if a3 = 1 then
  cV h7 r5 7 (f_X9_depth r5 a2 h7) fun v43 h44 =>
  some (.inl v43, h44)
  else
  (if a3 = 2 then
  gR h7 a0 10 0 fun v39 =>
  gR h7 v39 6 0 fun v40 =>
  cV h7 v40 9 (f_X11_keeperOf v40 a1 a2 h7) fun v41 h42 =>
  some (.inl v41, h42)
  else
  (if a3 = 3 then
  gR h7 a0 10 0 fun v34 =>
  gR h7 v34 6 0 fun v35 =>
  gR h7 v35 9 0 fun v36 =>
  cV h7 v36 3 (f_X5_howManyIn v36 a1 a2 h7) fun v37 h38 =>
  some (.inl v37, h38)
  else
  (if a3 = 4 then
  gR h7 a0 10 0 fun v30 =>
  gR h7 v30 6 0 fun v31 =>
  cV h7 v31 9 (f_X11_contentOf v31 a1 a2 h7) fun v32 h33 =>
  some (.inl v32, h33)
  else
  (if a3 = 5 then
  (if ¬ a1 = 2 then
  some (.inl 0, h7)
  else
  gR h7 a0 10 0 fun v23 =>
  gR h7 v23 6 0 fun v24 =>
  gR h7 v24 9 3 fun v25 =>
  cV h7 v25 0 (f_X2_isShared v25 a2 h7) fun v26 h27 =>
  bd (f_X12_bit v26 h27) fun v28 h29 =>
  some (.inl v28, h29))
  else
  (if a3 = 6 then
  (if ¬ a1 = 2 then
  some (.inl 0, h7)
  else
  gR h7 a0 10 0 fun v17 =>
  gR h7 v17 6 0 fun v18 =>
  gR h7 v18 9 3 fun v19 =>
  cV h7 v19 0 (f_X2_spread v19 a2 h7) fun v20 h21 =>
  some (.inl v20, h21))
  else
  some (.inr "java/util/NoSuchElementException", jt h7))))))))
  else
  some (.inr "java/util/NoSuchElementException", jt h7))
theorem P_X12_space (X : jx) (a0 : Nat) (a1 : Int32) (a2 : Int32) (a3 : Int32) (h : jh) : jv_P X M_X12_space jeIX [.ref (a0), .int (a1), .int (a2), .int (a3)] h (f_X12_space a0 a1 a2 a3 h) := by
  refine jv_P.of (by decide) rfl (by simp [Value.category]) (Nat.le_of_ble_eq_true rfl) ?_
  show jv_O X M_X12_space (h.1, h.2.1) jeIX 0 [some (.ref (a0)), some (.int (a1)), some (.int (a2)), some (.int (a3)), none] [] h (f_X12_space a0 a1 a2 a3 h)
  unfold f_X12_space
  refine jv_aload_n (jv_dk t_X12_space (k := 0) rfl) rfl rfl (Or.inr ⟨_, rfl⟩) ?_
  refine jv_gR (jv_dk t_X12_space (k := 1) rfl) fl_X12_10 (fun v1 => ?_)
  refine jv_gR (jv_dk t_X12_space (k := 2) rfl) fl_X12_82 (fun v2 => ?_)
  refine jv_iload_n (jv_dk t_X12_space (k := 3) rfl) rfl rfl ?_
  refine jv_callV (en' := jeQ) (pv := jpQ) (As := [.int (a1)]) (S := []) (jv_dk t_X12_space (k := 4) rfl) (fun _ => rfl) lk_X12_188 me_X11_treeOf mv_X11_treeOf ⟨by decide, by decide⟩ rfl rfl rfl (Nat.le_of_ble_eq_true rfl) (P_X11_treeOf X v2 a1 h) (fun v3 h4 => ?_)
  show jv_O X M_X12_space _ jeIX 11 [some (.ref (a0)), some (.int (a1)), some (.int (a2)), some (.int (a3)), none] [va_rf (v3)] h4 _
  refine jv_astore (L' := [some (.ref (a0)), some (.int (a1)), some (.int (a2)), some (.int (a3)), some (va_rf (v3))]) (jv_dk t_X12_space (k := 5) rfl) (Nat.le_of_ble_eq_true rfl) (va_rf_or _) rfl ?_
  refine jv_aload (jv_dk t_X12_space (k := 6) rfl) rfl (va_rf_or _) ?_
  refine jv_nq (fun e_r5 => ?_) (fun r5 e_r5 => ?_)
  · subst e_r5
    show jv_O X M_X12_space _ jeIX 15 [some (.ref (a0)), some (.int (a1)), some (.int (a2)), some (.int (a3)), some (.null)] [.null] h4 _
    refine jv_ifnull_n (tgt := 27) (jv_dk t_X12_space (k := 7) rfl) rfl ?_
    exact jv_throw (jv_dk t_X12_space (k := 12) rfl) (jv_dk t_X12_space (k := 13) rfl) (jv_dk t_X12_space (k := 14) rfl) (jv_dk t_X12_space (k := 15) rfl) rfl rfl (by decide) tw_146_148 (Nat.le_of_ble_eq_true rfl) ⟨by decide, by decide⟩ rfl
  · subst e_r5
    show jv_O X M_X12_space _ jeIX 15 [some (.ref (a0)), some (.int (a1)), some (.int (a2)), some (.int (a3)), some (.ref (r5))] [.ref (r5)] h4 _
    refine jv_ifnull_s (jv_dk t_X12_space (k := 7) rfl) ?_
    refine jv_aload (jv_dk t_X12_space (k := 8) rfl) rfl (Or.inr ⟨_, rfl⟩) ?_
    refine jv_iload_n (jv_dk t_X12_space (k := 9) rfl) rfl rfl ?_
    refine jv_callV (en' := jeI) (pv := jpI) (As := [.int (a2)]) (S := []) (jv_dk t_X12_space (k := 10) rfl) (fun _ => rfl) lk_X12_192 me_X9_has mv_X9_has ⟨by decide, by decide⟩ rfl rfl rfl (Nat.le_of_ble_eq_true rfl) (P_X9_has X r5 a2 h4) (fun v6 h7 => ?_)
    show jv_O X M_X12_space _ jeIX 24 [some (.ref (a0)), some (.int (a1)), some (.int (a2)), some (.int (a3)), some (.ref (r5))] [.int (v6)] h7 _
    refine jv_if_ne (tgt := 35) (jv_dk t_X12_space (k := 11) rfl) rfl (fun c8 => ?_) (fun c8 => ?_)
    · refine jv_iload_n (jv_dk t_X12_space (k := 16) rfl) rfl rfl ?_
      by_cases c9 : a3 = 0
      · rw [if_pos c9]
        refine jv_tbl (tgt := 80) (jv_dk t_X12_space (k := 17) rfl) (by rw [c9] <;> decide) (by rw [c9] <;> decide) (by rw [c9] <;> rfl) rfl ?_
        refine jv_aload (jv_dk t_X12_space (k := 18) rfl) rfl (Or.inr ⟨_, rfl⟩) ?_
        refine jv_iload_n (jv_dk t_X12_space (k := 19) rfl) rfl rfl ?_
        refine jv_callV (en' := jeI) (pv := jpI) (As := [.int (a2)]) (S := []) (jv_dk t_X12_space (k := 20) rfl) (fun _ => rfl) lk_X12_195 me_X9_around mv_X9_around ⟨by decide, by decide⟩ rfl rfl rfl (Nat.le_of_ble_eq_true rfl) (P_X9_around X r5 a2 h7) (fun v45 h46 => ?_)
        show jv_O X M_X12_space _ jeIX 86 [some (.ref (a0)), some (.int (a1)), some (.int (a2)), some (.int (a3)), some (.ref (r5))] [.int (v45)] h46 _
        exact jv_iret (ty := .int) (jv_dk t_X12_space (k := 21) rfl) rfl rfl rfl
      rw [if_neg c9]
      by_cases c10 : a3 = 1
      · rw [if_pos c10]
        refine jv_tbl (tgt := 87) (jv_dk t_X12_space (k := 17) rfl) (by rw [c10] <;> decide) (by rw [c10] <;> decide) (by rw [c10] <;> rfl) rfl ?_
        refine jv_aload (jv_dk t_X12_space (k := 22) rfl) rfl (Or.inr ⟨_, rfl⟩) ?_
        refine jv_iload_n (jv_dk t_X12_space (k := 23) rfl) rfl rfl ?_
        refine jv_callV (en' := jeI) (pv := jpI) (As := [.int (a2)]) (S := []) (jv_dk t_X12_space (k := 24) rfl) (fun _ => rfl) lk_X12_198 me_X9_depth mv_X9_depth ⟨by decide, by decide⟩ rfl rfl rfl (Nat.le_of_ble_eq_true rfl) (P_X9_depth X r5 a2 h7) (fun v43 h44 => ?_)
        show jv_O X M_X12_space _ jeIX 93 [some (.ref (a0)), some (.int (a1)), some (.int (a2)), some (.int (a3)), some (.ref (r5))] [.int (v43)] h44 _
        exact jv_iret (ty := .int) (jv_dk t_X12_space (k := 25) rfl) rfl rfl rfl
      rw [if_neg c10]
      by_cases c11 : a3 = 2
      · rw [if_pos c11]
        refine jv_tbl (tgt := 94) (jv_dk t_X12_space (k := 17) rfl) (by rw [c11] <;> decide) (by rw [c11] <;> decide) (by rw [c11] <;> rfl) rfl ?_
        refine jv_aload_n (jv_dk t_X12_space (k := 26) rfl) rfl rfl (Or.inr ⟨_, rfl⟩) ?_
        refine jv_gR (jv_dk t_X12_space (k := 27) rfl) fl_X12_10 (fun v39 => ?_)
        refine jv_gR (jv_dk t_X12_space (k := 28) rfl) fl_X12_82 (fun v40 => ?_)
        refine jv_iload_n (jv_dk t_X12_space (k := 29) rfl) rfl rfl ?_
        refine jv_iload_n (jv_dk t_X12_space (k := 30) rfl) rfl rfl ?_
        refine jv_callV (en' := jeI) (pv := jpI) (As := [.int (a1), .int (a2)]) (S := []) (jv_dk t_X12_space (k := 31) rfl) (fun _ => rfl) lk_X12_201 me_X11_keeperOf mv_X11_keeperOf ⟨by decide, by decide⟩ rfl rfl rfl (Nat.le_of_ble_eq_true rfl) (P_X11_keeperOf X v40 a1 a2 h7) (fun v41 h42 => ?_)
        show jv_O X M_X12_space _ jeIX 106 [some (.ref (a0)), some (.int (a1)), some (.int (a2)), some (.int (a3)), some (.ref (r5))] [.int (v41)] h42 _
        exact jv_iret (ty := .int) (jv_dk t_X12_space (k := 32) rfl) rfl rfl rfl
      rw [if_neg c11]
      by_cases c12 : a3 = 3
      · rw [if_pos c12]
        refine jv_tbl (tgt := 107) (jv_dk t_X12_space (k := 17) rfl) (by rw [c12] <;> decide) (by rw [c12] <;> decide) (by rw [c12] <;> rfl) rfl ?_
        refine jv_aload_n (jv_dk t_X12_space (k := 33) rfl) rfl rfl (Or.inr ⟨_, rfl⟩) ?_
        refine jv_gR (jv_dk t_X12_space (k := 34) rfl) fl_X12_10 (fun v34 => ?_)
        refine jv_gR (jv_dk t_X12_space (k := 35) rfl) fl_X12_82 (fun v35 => ?_)
        refine jv_gR (jv_dk t_X12_space (k := 36) rfl) fl_X12_97 (fun v36 => ?_)
        refine jv_iload_n (jv_dk t_X12_space (k := 37) rfl) rfl rfl ?_
        refine jv_iload_n (jv_dk t_X12_space (k := 38) rfl) rfl rfl ?_
        refine jv_callV (en' := jeI) (pv := jpI) (As := [.int (a1), .int (a2)]) (S := []) (jv_dk t_X12_space (k := 39) rfl) (fun _ => rfl) lk_X12_204 me_X5_howManyIn mv_X5_howManyIn ⟨by decide, by decide⟩ rfl rfl rfl (Nat.le_of_ble_eq_true rfl) (P_X5_howManyIn X v36 a1 a2 h7) (fun v37 h38 => ?_)
        show jv_O X M_X12_space _ jeIX 122 [some (.ref (a0)), some (.int (a1)), some (.int (a2)), some (.int (a3)), some (.ref (r5))] [.int (v37)] h38 _
        exact jv_iret (ty := .int) (jv_dk t_X12_space (k := 40) rfl) rfl rfl rfl
      rw [if_neg c12]
      by_cases c13 : a3 = 4
      · rw [if_pos c13]
        refine jv_tbl (tgt := 123) (jv_dk t_X12_space (k := 17) rfl) (by rw [c13] <;> decide) (by rw [c13] <;> decide) (by rw [c13] <;> rfl) rfl ?_
        refine jv_aload_n (jv_dk t_X12_space (k := 41) rfl) rfl rfl (Or.inr ⟨_, rfl⟩) ?_
        refine jv_gR (jv_dk t_X12_space (k := 42) rfl) fl_X12_10 (fun v30 => ?_)
        refine jv_gR (jv_dk t_X12_space (k := 43) rfl) fl_X12_82 (fun v31 => ?_)
        refine jv_iload_n (jv_dk t_X12_space (k := 44) rfl) rfl rfl ?_
        refine jv_iload_n (jv_dk t_X12_space (k := 45) rfl) rfl rfl ?_
        refine jv_callV (en' := jeI) (pv := jpI) (As := [.int (a1), .int (a2)]) (S := []) (jv_dk t_X12_space (k := 46) rfl) (fun _ => rfl) lk_X12_207 me_X11_contentOf mv_X11_contentOf ⟨by decide, by decide⟩ rfl rfl rfl (Nat.le_of_ble_eq_true rfl) (P_X11_contentOf X v31 a1 a2 h7) (fun v32 h33 => ?_)
        show jv_O X M_X12_space _ jeIX 135 [some (.ref (a0)), some (.int (a1)), some (.int (a2)), some (.int (a3)), some (.ref (r5))] [.int (v32)] h33 _
        exact jv_iret (ty := .int) (jv_dk t_X12_space (k := 47) rfl) rfl rfl rfl
      rw [if_neg c13]
      by_cases c14 : a3 = 5
      · rw [if_pos c14]
        refine jv_tbl (tgt := 136) (jv_dk t_X12_space (k := 17) rfl) (by rw [c14] <;> decide) (by rw [c14] <;> decide) (by rw [c14] <;> rfl) rfl ?_
        refine jv_iload_n (jv_dk t_X12_space (k := 48) rfl) rfl rfl ?_
        refine jv_iconst (v := 2) (jv_dk t_X12_space (k := 49) rfl) (by decide) ?_
        refine jv_icmp_ne (tgt := 161) (jv_dk t_X12_space (k := 50) rfl) rfl (fun c22 => ?_) (fun c22 => ?_)
        · refine jv_iconst (v := 0) (jv_dk t_X12_space (k := 59) rfl) (by decide) ?_
          exact jv_iret (ty := .int) (jv_dk t_X12_space (k := 60) rfl) rfl rfl rfl
        · show jv_O _ _ _ _ 141 _ _ _ _
          refine jv_aload_n (jv_dk t_X12_space (k := 51) rfl) rfl rfl (Or.inr ⟨_, rfl⟩) ?_
          refine jv_gR (jv_dk t_X12_space (k := 52) rfl) fl_X12_10 (fun v23 => ?_)
          refine jv_gR (jv_dk t_X12_space (k := 53) rfl) fl_X12_82 (fun v24 => ?_)
          refine jv_gR (jv_dk t_X12_space (k := 54) rfl) fl_X12_132 (fun v25 => ?_)
          refine jv_iload_n (jv_dk t_X12_space (k := 55) rfl) rfl rfl ?_
          refine jv_callV (en' := jeI) (pv := jpI) (As := [.int (a2)]) (S := []) (jv_dk t_X12_space (k := 56) rfl) (fun _ => rfl) lk_X12_210 me_X2_isShared mv_X2_isShared ⟨by decide, by decide⟩ rfl rfl rfl (Nat.le_of_ble_eq_true rfl) (P_X2_isShared X v25 a2 h7) (fun v26 h27 => ?_)
          show jv_O X M_X12_space _ jeIX 155 [some (.ref (a0)), some (.int (a1)), some (.int (a2)), some (.int (a3)), some (.ref (r5))] [.int (v26)] h27 _
          refine jv_callS (en' := jeI) (pv := jpI) (As := [.int (v26)]) (S := []) (jv_dk t_X12_space (k := 57) rfl) (fun _ => rfl) (Or.inl lk_X12_181) me_X12_bit ms_X12_bit ⟨by decide, by decide⟩ rfl rfl (Nat.le_of_ble_eq_true rfl) (P_X12_bit X v26 h27) (fun v28 h29 => ?_)
          show jv_O X M_X12_space _ jeIX 158 [some (.ref (a0)), some (.int (a1)), some (.int (a2)), some (.int (a3)), some (.ref (r5))] [.int (v28)] h29 _
          refine jv_goto (tgt := 162) (jv_dk t_X12_space (k := 58) rfl) rfl ?_
          exact jv_iret (ty := .int) (jv_dk t_X12_space (k := 60) rfl) rfl rfl rfl
      rw [if_neg c14]
      by_cases c15 : a3 = 6
      · rw [if_pos c15]
        refine jv_tbl (tgt := 163) (jv_dk t_X12_space (k := 17) rfl) (by rw [c15] <;> decide) (by rw [c15] <;> decide) (by rw [c15] <;> rfl) rfl ?_
        refine jv_iload_n (jv_dk t_X12_space (k := 61) rfl) rfl rfl ?_
        refine jv_iconst (v := 2) (jv_dk t_X12_space (k := 62) rfl) (by decide) ?_
        refine jv_icmp_ne (tgt := 185) (jv_dk t_X12_space (k := 63) rfl) rfl (fun c16 => ?_) (fun c16 => ?_)
        · refine jv_iconst (v := 0) (jv_dk t_X12_space (k := 71) rfl) (by decide) ?_
          exact jv_iret (ty := .int) (jv_dk t_X12_space (k := 72) rfl) rfl rfl rfl
        · show jv_O _ _ _ _ 168 _ _ _ _
          refine jv_aload_n (jv_dk t_X12_space (k := 64) rfl) rfl rfl (Or.inr ⟨_, rfl⟩) ?_
          refine jv_gR (jv_dk t_X12_space (k := 65) rfl) fl_X12_10 (fun v17 => ?_)
          refine jv_gR (jv_dk t_X12_space (k := 66) rfl) fl_X12_82 (fun v18 => ?_)
          refine jv_gR (jv_dk t_X12_space (k := 67) rfl) fl_X12_132 (fun v19 => ?_)
          refine jv_iload_n (jv_dk t_X12_space (k := 68) rfl) rfl rfl ?_
          refine jv_callV (en' := jeI) (pv := jpI) (As := [.int (a2)]) (S := []) (jv_dk t_X12_space (k := 69) rfl) (fun _ => rfl) lk_X12_213 me_X2_spread mv_X2_spread ⟨by decide, by decide⟩ rfl rfl rfl (Nat.le_of_ble_eq_true rfl) (P_X2_spread X v19 a2 h7) (fun v20 h21 => ?_)
          show jv_O X M_X12_space _ jeIX 182 [some (.ref (a0)), some (.int (a1)), some (.int (a2)), some (.int (a3)), some (.ref (r5))] [.int (v20)] h21 _
          refine jv_goto (tgt := 186) (jv_dk t_X12_space (k := 70) rfl) rfl ?_
          exact jv_iret (ty := .int) (jv_dk t_X12_space (k := 72) rfl) rfl rfl rfl
      rw [if_neg c15]
      have e_c9 := jv_ne (x := a3) (k := 0) (by decide) (by decide) c9
      have e_c10 := jv_ne (x := a3) (k := 1) (by decide) (by decide) c10
      have e_c11 := jv_ne (x := a3) (k := 2) (by decide) (by decide) c11
      have e_c12 := jv_ne (x := a3) (k := 3) (by decide) (by decide) c12
      have e_c13 := jv_ne (x := a3) (k := 4) (by decide) (by decide) c13
      have e_c14 := jv_ne (x := a3) (k := 5) (by decide) (by decide) c14
      have e_c15 := jv_ne (x := a3) (k := 6) (by decide) (by decide) c15
      refine jv_tblOut (tgt := 187) (jv_dk t_X12_space (k := 17) rfl) (by omega) rfl ?_
      exact jv_throw (jv_dk t_X12_space (k := 73) rfl) (jv_dk t_X12_space (k := 74) rfl) (jv_dk t_X12_space (k := 75) rfl) (jv_dk t_X12_space (k := 76) rfl) rfl rfl (by decide) tw_146_148 (Nat.le_of_ble_eq_true rfl) ⟨by decide, by decide⟩ rfl
    · show jv_O _ _ _ _ 27 _ _ _ _
      exact jv_throw (jv_dk t_X12_space (k := 12) rfl) (jv_dk t_X12_space (k := 13) rfl) (jv_dk t_X12_space (k := 14) rfl) (jv_dk t_X12_space (k := 15) rfl) rfl rfl (by decide) tw_146_148 (Nat.le_of_ble_eq_true rfl) ⟨by decide, by decide⟩ rfl
def t0_X12_needSpace : List (Nat × Instr × Nat) := [(0, .aload_n 0, 1), (1, .getfield 10, 3), (4, .getfield 82, 3), (7, .iload_n 1, 1), (8, .invokevirtual 188, 3), (11, .astore_n 3, 1), (12, .aload_n 3, 1), (13, .ifnull 11, 3), (16, .aload_n 3, 1), (17, .iload_n 2, 1), (18, .invokevirtual 192, 3), (21, .ifCond .ne 11, 3), (24, .new 146, 3), (27, .dup, 1), (28, .invokespecial 148, 3), (31, .athrow, 1), (32, .return_, 1)]
theorem t_X12_needSpace : jv_dec cX12_needSpace t0_X12_needSpace = true := by decide +kernel
def M_X12_needSpace : jm := (yX12_needSpace, cX12_needSpace, 4, none, 6, 100, [])
def f_X12_needSpace (a0 : Nat) (a1 : Int32) (a2 : Int32) (h : jh) : Option ((Unit ⊕ String) × jh) :=
  gR h a0 10 0 fun v1 =>
  gR h v1 6 0 fun v2 =>
  cV h v2 9 (f_X11_treeOf v2 a1 h) fun v3 h4 =>
  nq v3 (some (.inr "java/util/NoSuchElementException", jt h4)) fun r5 =>
  cV h4 r5 7 (f_X9_has r5 a2 h4) fun v6 h7 =>
  (if ¬ v6 = 0 then
  some (.inl (), h7)
  else
  some (.inr "java/util/NoSuchElementException", jt h7))
theorem P_X12_needSpace (X : jx) (a0 : Nat) (a1 : Int32) (a2 : Int32) (h : jh) : jv_P X M_X12_needSpace jeVX [.ref (a0), .int (a1), .int (a2)] h (f_X12_needSpace a0 a1 a2 h) := by
  refine jv_P.of (by decide) rfl (by simp [Value.category]) (Nat.le_of_ble_eq_true rfl) ?_
  show jv_O X M_X12_needSpace (h.1, h.2.1) jeVX 0 [some (.ref (a0)), some (.int (a1)), some (.int (a2)), none] [] h (f_X12_needSpace a0 a1 a2 h)
  unfold f_X12_needSpace
  refine jv_aload_n (jv_dk t_X12_needSpace (k := 0) rfl) rfl rfl (Or.inr ⟨_, rfl⟩) ?_
  refine jv_gR (jv_dk t_X12_needSpace (k := 1) rfl) fl_X12_10 (fun v1 => ?_)
  refine jv_gR (jv_dk t_X12_needSpace (k := 2) rfl) fl_X12_82 (fun v2 => ?_)
  refine jv_iload_n (jv_dk t_X12_needSpace (k := 3) rfl) rfl rfl ?_
  refine jv_callV (en' := jeQ) (pv := jpQ) (As := [.int (a1)]) (S := []) (jv_dk t_X12_needSpace (k := 4) rfl) (fun _ => rfl) lk_X12_188 me_X11_treeOf mv_X11_treeOf ⟨by decide, by decide⟩ rfl rfl rfl (Nat.le_of_ble_eq_true rfl) (P_X11_treeOf X v2 a1 h) (fun v3 h4 => ?_)
  show jv_O X M_X12_needSpace _ jeVX 11 [some (.ref (a0)), some (.int (a1)), some (.int (a2)), none] [va_rf (v3)] h4 _
  refine jv_astore_n (L' := [some (.ref (a0)), some (.int (a1)), some (.int (a2)), some (va_rf (v3))]) (jv_dk t_X12_needSpace (k := 5) rfl) rfl (Nat.le_of_ble_eq_true rfl) (va_rf_or _) rfl ?_
  refine jv_aload_n (jv_dk t_X12_needSpace (k := 6) rfl) rfl rfl (va_rf_or _) ?_
  refine jv_nq (fun e_r5 => ?_) (fun r5 e_r5 => ?_)
  · subst e_r5
    show jv_O X M_X12_needSpace _ jeVX 13 [some (.ref (a0)), some (.int (a1)), some (.int (a2)), some (.null)] [.null] h4 _
    refine jv_ifnull_n (tgt := 24) (jv_dk t_X12_needSpace (k := 7) rfl) rfl ?_
    exact jv_throw (jv_dk t_X12_needSpace (k := 12) rfl) (jv_dk t_X12_needSpace (k := 13) rfl) (jv_dk t_X12_needSpace (k := 14) rfl) (jv_dk t_X12_needSpace (k := 15) rfl) rfl rfl (by decide) tw_146_148 (Nat.le_of_ble_eq_true rfl) ⟨by decide, by decide⟩ rfl
  · subst e_r5
    show jv_O X M_X12_needSpace _ jeVX 13 [some (.ref (a0)), some (.int (a1)), some (.int (a2)), some (.ref (r5))] [.ref (r5)] h4 _
    refine jv_ifnull_s (jv_dk t_X12_needSpace (k := 7) rfl) ?_
    refine jv_aload_n (jv_dk t_X12_needSpace (k := 8) rfl) rfl rfl (Or.inr ⟨_, rfl⟩) ?_
    refine jv_iload_n (jv_dk t_X12_needSpace (k := 9) rfl) rfl rfl ?_
    refine jv_callV (en' := jeI) (pv := jpI) (As := [.int (a2)]) (S := []) (jv_dk t_X12_needSpace (k := 10) rfl) (fun _ => rfl) lk_X12_192 me_X9_has mv_X9_has ⟨by decide, by decide⟩ rfl rfl rfl (Nat.le_of_ble_eq_true rfl) (P_X9_has X r5 a2 h4) (fun v6 h7 => ?_)
    show jv_O X M_X12_needSpace _ jeVX 21 [some (.ref (a0)), some (.int (a1)), some (.int (a2)), some (.ref (r5))] [.int (v6)] h7 _
    refine jv_if_ne (tgt := 32) (jv_dk t_X12_needSpace (k := 11) rfl) rfl (fun c8 => ?_) (fun c8 => ?_)
    · exact jv_vret (jv_dk t_X12_needSpace (k := 16) rfl) rfl rfl
    · show jv_O _ _ _ _ 24 _ _ _ _
      exact jv_throw (jv_dk t_X12_needSpace (k := 12) rfl) (jv_dk t_X12_needSpace (k := 13) rfl) (jv_dk t_X12_needSpace (k := 14) rfl) (jv_dk t_X12_needSpace (k := 15) rfl) rfl rfl (by decide) tw_146_148 (Nat.le_of_ble_eq_true rfl) ⟨by decide, by decide⟩ rfl
def t0_X12_number : List (Nat × Instr × Nat) := [(0, .aload_n 0, 1), (1, .iload_n 1, 1), (2, .invokevirtual 149, 3), (5, .aload_n 0, 1), (6, .iconst 0, 1), (7, .iload_n 2, 1), (8, .invokevirtual 216, 3), (11, .aload_n 0, 1), (12, .getfield 10, 3), (15, .getfield 82, 3), (18, .getfield 97, 3), (21, .iload_n 1, 1), (22, .iload_n 2, 1), (23, .invokevirtual 167, 3), (26, .istore_n 3, 1), (27, .iload_n 3, 1), (28, .ifCond .ne 7, 3), (31, .iconst (-1), 1), (32, .goto 4, 3), (35, .iload_n 3, 1), (36, .ireturn, 1)]
theorem t_X12_number : jv_dec cX12_number t0_X12_number = true := by decide +kernel
def M_X12_number : jm := (yX12_number, cX12_number, 4, (some .int), 7, 123, [])
theorem lk_X12_216 : Cond.methodLink RX12 216 M_X12_needSpace.1 ∈ lw_tbl := (jv_at 1187 (by decide +kernel))
set_option maxRecDepth 20000 in
theorem me_X12_needSpace : jv_me M_X12_needSpace 2 := ⟨(jv_in5 (List.mem_of_getElem? (i := 70) rfl)), (jv_at 161 (by decide +kernel)), ⟨by decide, by decide⟩, by decide +kernel⟩
theorem mv_X12_needSpace : jv_mv M_X12_needSpace := ⟨(jv_at 1189 (by decide +kernel)), (jv_at 83 (by decide +kernel))⟩
def f_X12_number (a0 : Nat) (a1 : Int32) (a2 : Int32) (h : jh) : Option ((Int32 ⊕ String) × jh) :=
  cVX h a0 10 (f_X12_needProcess a0 a1 h) fun _ h1 =>
  cVX h1 a0 10 (f_X12_needSpace a0 0 a2 h1) fun _ h2 =>
  gR h2 a0 10 0 fun v3 =>
  gR h2 v3 6 0 fun v4 =>
  gR h2 v4 9 0 fun v5 =>
  cV h2 v5 3 (f_X5_numberOf v5 a1 a2 h2) fun v6 h7 =>
  (if ¬ v6 = 0 then
  some (.inl v6, h7)
  else
  some (.inl (-1), h7))
theorem P_X12_number (X : jx) (a0 : Nat) (a1 : Int32) (a2 : Int32) (h : jh) : jv_P X M_X12_number jeIX [.ref (a0), .int (a1), .int (a2)] h (f_X12_number a0 a1 a2 h) := by
  refine jv_P.of (by decide) rfl (by simp [Value.category]) (Nat.le_of_ble_eq_true rfl) ?_
  show jv_O X M_X12_number (h.1, h.2.1) jeIX 0 [some (.ref (a0)), some (.int (a1)), some (.int (a2)), none] [] h (f_X12_number a0 a1 a2 h)
  unfold f_X12_number
  refine jv_aload_n (jv_dk t_X12_number (k := 0) rfl) rfl rfl (Or.inr ⟨_, rfl⟩) ?_
  refine jv_iload_n (jv_dk t_X12_number (k := 1) rfl) rfl rfl ?_
  refine jv_callVX (en' := jeVX) (pv := jpV) (As := [.int (a1)]) (S := []) (jv_dk t_X12_number (k := 2) rfl) (fun _ => rfl) (fun _ => rfl) (fun _ => rfl) rfl lk_X12_149 me_X12_needProcess mv_X12_needProcess ⟨by decide, by decide⟩ rfl rfl rfl (Nat.le_of_ble_eq_true rfl) (P_X12_needProcess X a0 a1 h) (fun _ h1 => ?_)
  show jv_O X M_X12_number _ jeIX 5 [some (.ref (a0)), some (.int (a1)), some (.int (a2)), none] [] h1 _
  refine jv_aload_n (jv_dk t_X12_number (k := 3) rfl) rfl rfl (Or.inr ⟨_, rfl⟩) ?_
  refine jv_iconst (v := 0) (jv_dk t_X12_number (k := 4) rfl) (by decide) ?_
  refine jv_iload_n (jv_dk t_X12_number (k := 5) rfl) rfl rfl ?_
  refine jv_callVX (en' := jeVX) (pv := jpV) (As := [.int (0), .int (a2)]) (S := []) (jv_dk t_X12_number (k := 6) rfl) (fun _ => rfl) (fun _ => rfl) (fun _ => rfl) rfl lk_X12_216 me_X12_needSpace mv_X12_needSpace ⟨by decide, by decide⟩ rfl rfl rfl (Nat.le_of_ble_eq_true rfl) (P_X12_needSpace X a0 0 a2 h1) (fun _ h2 => ?_)
  show jv_O X M_X12_number _ jeIX 11 [some (.ref (a0)), some (.int (a1)), some (.int (a2)), none] [] h2 _
  refine jv_aload_n (jv_dk t_X12_number (k := 7) rfl) rfl rfl (Or.inr ⟨_, rfl⟩) ?_
  refine jv_gR (jv_dk t_X12_number (k := 8) rfl) fl_X12_10 (fun v3 => ?_)
  refine jv_gR (jv_dk t_X12_number (k := 9) rfl) fl_X12_82 (fun v4 => ?_)
  refine jv_gR (jv_dk t_X12_number (k := 10) rfl) fl_X12_97 (fun v5 => ?_)
  refine jv_iload_n (jv_dk t_X12_number (k := 11) rfl) rfl rfl ?_
  refine jv_iload_n (jv_dk t_X12_number (k := 12) rfl) rfl rfl ?_
  refine jv_callV (en' := jeI) (pv := jpI) (As := [.int (a1), .int (a2)]) (S := []) (jv_dk t_X12_number (k := 13) rfl) (fun _ => rfl) lk_X12_167 me_X5_numberOf mv_X5_numberOf ⟨by decide, by decide⟩ rfl rfl rfl (Nat.le_of_ble_eq_true rfl) (P_X5_numberOf X v5 a1 a2 h2) (fun v6 h7 => ?_)
  show jv_O X M_X12_number _ jeIX 26 [some (.ref (a0)), some (.int (a1)), some (.int (a2)), none] [.int (v6)] h7 _
  refine jv_istore_n (L' := [some (.ref (a0)), some (.int (a1)), some (.int (a2)), some (.int (v6))]) (jv_dk t_X12_number (k := 14) rfl) rfl (Nat.le_of_ble_eq_true rfl) rfl ?_
  refine jv_iload_n (jv_dk t_X12_number (k := 15) rfl) rfl rfl ?_
  refine jv_if_ne (tgt := 35) (jv_dk t_X12_number (k := 16) rfl) rfl (fun c8 => ?_) (fun c8 => ?_)
  · refine jv_iload_n (jv_dk t_X12_number (k := 19) rfl) rfl rfl ?_
    exact jv_iret (ty := .int) (jv_dk t_X12_number (k := 20) rfl) rfl rfl rfl
  · show jv_O _ _ _ _ 31 _ _ _ _
    refine jv_iconst (v := (-1)) (jv_dk t_X12_number (k := 17) rfl) (by decide) ?_
    refine jv_goto (tgt := 36) (jv_dk t_X12_number (k := 18) rfl) rfl ?_
    exact jv_iret (ty := .int) (jv_dk t_X12_number (k := 20) rfl) rfl rfl rfl
def t0_X12_listed : List (Nat × Instr × Nat) := [(0, .aload_n 0, 1), (1, .iconst 0, 1), (2, .iload_n 1, 1), (3, .invokevirtual 216, 3), (6, .iconst 0, 1), (7, .istore_n 3, 1), (8, .iconst 1, 1), (9, .istore 4, 2), (11, .iload 4, 2), (13, .bipush 20, 2), (15, .if_icmp .gt 44, 3), (18, .aload_n 0, 1), (19, .getfield 10, 3), (22, .getfield 82, 3), (25, .getfield 97, 3), (28, .iload_n 1, 1), (29, .iload 4, 2), (31, .invokevirtual 220, 3), (34, .istore 5, 2), (36, .iload 5, 2), (38, .iconst (-1), 1), (39, .if_icmp .eq 14, 3), (42, .iload_n 3, 1), (43, .iload_n 2, 1), (44, .if_icmp .ne 6, 3), (47, .iload 5, 2), (49, .ireturn, 1), (50, .iinc 3 1, 3), (53, .iinc 4 1, 3), (56, .goto (-45), 3), (59, .iload_n 2, 1), (60, .iconst (-1), 1), (61, .if_icmp .eq 11, 3), (64, .new 146, 3), (67, .dup, 1), (68, .invokespecial 148, 3), (71, .athrow, 1), (72, .iload_n 3, 1), (73, .ireturn, 1)]
theorem t_X12_listed : jv_dec cX12_listed t0_X12_listed = true := by decide +kernel
def M_X12_listed : jm := (yX12_listed, cX12_listed, 6, (some .int), 7, 123, [])
theorem lk_X12_220 : jv_lk RX12 220 M_X5_holderOf := Or.inr ⟨"SpaceWarden", (jv_at 1198 (by decide +kernel))⟩
def f_X12_listed_h11 (K11 : Int32 → Int32 → jh → Option ((Int32 ⊕ String) × jh)) (R11 : Nat → Int32 → Int32 → Int32 → Int32 → jh → Option ((Int32 ⊕ String) × jh)) (x0 : Nat) (x1 : Int32) (x2 : Int32) (x3 : Int32) (x4 : Int32) (h : jh) : Option ((Int32 ⊕ String) × jh) :=
  (if 20 < x4 then
  K11 x2 x3 h
  else
  gR h x0 10 0 fun v3 =>
  gR h v3 6 0 fun v4 =>
  gR h v4 9 0 fun v5 =>
  cV h v5 3 (f_X5_holderOf v5 x1 x4 h) fun v6 h7 =>
  (if v6 = (-1) then
  R11 x0 x1 x2 x3 (x4 + 1) h7
  else
  (if ¬ x3 = x2 then
  R11 x0 x1 x2 (x3 + 1) (x4 + 1) h7
  else
  some (.inl v6, h7))))
theorem o_f_X12_listed_h11 {X : jx} {b0 : Nat × Nat} {K11 : Int32 → Int32 → jh → Option ((Int32 ⊕ String) × jh)} (hK11 : ∀ (x2 : Int32) (x3 : Int32) (h : jh), jv_O X M_X12_listed b0 jeIX 59 [none, none, some (.int (x2)), some (.int (x3)), none, none] [] h (K11 x2 x3 h)) : ∀ (x0 : Nat) (x1 : Int32) (x2 : Int32) (x3 : Int32) (x4 : Int32) (h : jh), jv_O X M_X12_listed b0 jeIX 11 [some (.ref (x0)), some (.int (x1)), some (.int (x2)), some (.int (x3)), some (.int (x4)), none] [] h (jlp5 (f_X12_listed_h11 K11) jfu x0 x1 x2 x3 x4 h) := by
  refine jlp5_ok (P := fun x0 x1 x2 x3 x4 h o => jv_O X M_X12_listed b0 jeIX 11 [some (.ref (x0)), some (.int (x1)), some (.int (x2)), some (.int (x3)), some (.int (x4)), none] [] h o) (fun R11 hR11 => ?_) (fun _ _ _ _ _ _  => jv_none rfl) jfu
  intro x0 x1 x2 x3 x4 h
  unfold f_X12_listed_h11
  refine jv_iload (jv_dk t_X12_listed (k := 8) rfl) rfl ?_
  refine jv_bipush (v := 20) (jv_dk t_X12_listed (k := 9) rfl) (by decide) ?_
  refine jv_icmp_gt (tgt := 59) (jv_dk t_X12_listed (k := 10) rfl) rfl (fun c2 => ?_) (fun c2 => ?_)
  · refine jv_le_row (jv_le_n (jv_le_n (jv_le_s (jv_le_s (jv_le_n (jv_le_n (jv_le_nil))))))) ?_
    exact hK11 _ _ _ 
  · show jv_O _ _ _ _ 18 _ _ _ _
    refine jv_aload_n (jv_dk t_X12_listed (k := 11) rfl) rfl rfl (Or.inr ⟨_, rfl⟩) ?_
    refine jv_gR (jv_dk t_X12_listed (k := 12) rfl) fl_X12_10 (fun v3 => ?_)
    refine jv_gR (jv_dk t_X12_listed (k := 13) rfl) fl_X12_82 (fun v4 => ?_)
    refine jv_gR (jv_dk t_X12_listed (k := 14) rfl) fl_X12_97 (fun v5 => ?_)
    refine jv_iload_n (jv_dk t_X12_listed (k := 15) rfl) rfl rfl ?_
    refine jv_iload (jv_dk t_X12_listed (k := 16) rfl) rfl ?_
    refine jv_callV (en' := jeI) (pv := jpI) (As := [.int (x1), .int (x4)]) (S := []) (jv_dk t_X12_listed (k := 17) rfl) (fun _ => rfl) lk_X12_220 me_X5_holderOf mv_X5_holderOf ⟨by decide, by decide⟩ rfl rfl rfl (Nat.le_of_ble_eq_true rfl) (P_X5_holderOf X v5 x1 x4 h) (fun v6 h7 => ?_)
    show jv_O X M_X12_listed _ jeIX 34 [some (.ref (x0)), some (.int (x1)), some (.int (x2)), some (.int (x3)), some (.int (x4)), none] [.int (v6)] h7 _
    refine jv_istore (L' := [some (.ref (x0)), some (.int (x1)), some (.int (x2)), some (.int (x3)), some (.int (x4)), some (.int (v6))]) (jv_dk t_X12_listed (k := 18) rfl) (Nat.le_of_ble_eq_true rfl) rfl ?_
    refine jv_iload (jv_dk t_X12_listed (k := 19) rfl) rfl ?_
    refine jv_iconst (v := (-1)) (jv_dk t_X12_listed (k := 20) rfl) (by decide) ?_
    refine jv_icmp_eq (tgt := 53) (jv_dk t_X12_listed (k := 21) rfl) rfl (fun c8 => ?_) (fun c8 => ?_)
    · refine jv_iinc (v := 1) (L' := [some (.ref (x0)), some (.int (x1)), some (.int (x2)), some (.int (x3)), some (.int (x4 + 1)), some (.int (v6))]) (jv_dk t_X12_listed (k := 28) rfl) rfl (by decide) rfl ?_
      refine jv_goto (tgt := 11) (jv_dk t_X12_listed (k := 29) rfl) rfl ?_
      refine jv_le_row (jv_le_s (jv_le_s (jv_le_s (jv_le_s (jv_le_s (jv_le_n (jv_le_nil))))))) ?_
      exact hR11 _ _ _ _ _ _ 
    · show jv_O _ _ _ _ 42 _ _ _ _
      refine jv_iload_n (jv_dk t_X12_listed (k := 22) rfl) rfl rfl ?_
      refine jv_iload_n (jv_dk t_X12_listed (k := 23) rfl) rfl rfl ?_
      refine jv_icmp_ne (tgt := 50) (jv_dk t_X12_listed (k := 24) rfl) rfl (fun c9 => ?_) (fun c9 => ?_)
      · refine jv_iinc (v := 1) (L' := [some (.ref (x0)), some (.int (x1)), some (.int (x2)), some (.int (x3 + 1)), some (.int (x4)), some (.int (v6))]) (jv_dk t_X12_listed (k := 27) rfl) rfl (by decide) rfl ?_
        refine jv_iinc (v := 1) (L' := [some (.ref (x0)), some (.int (x1)), some (.int (x2)), some (.int (x3 + 1)), some (.int (x4 + 1)), some (.int (v6))]) (jv_dk t_X12_listed (k := 28) rfl) rfl (by decide) rfl ?_
        refine jv_goto (tgt := 11) (jv_dk t_X12_listed (k := 29) rfl) rfl ?_
        refine jv_le_row (jv_le_s (jv_le_s (jv_le_s (jv_le_s (jv_le_s (jv_le_n (jv_le_nil))))))) ?_
        exact hR11 _ _ _ _ _ _ 
      · show jv_O _ _ _ _ 47 _ _ _ _
        refine jv_iload (jv_dk t_X12_listed (k := 25) rfl) rfl ?_
        exact jv_iret (ty := .int) (jv_dk t_X12_listed (k := 26) rfl) rfl rfl rfl
def f_X12_listed (a0 : Nat) (a1 : Int32) (a2 : Int32) (h : jh) : Option ((Int32 ⊕ String) × jh) :=
  cVX h a0 10 (f_X12_needSpace a0 0 a1 h) fun _ h1 =>
  jlp5 (f_X12_listed_h11 (fun y11 y12 h10 =>
  (if y11 = (-1) then
  some (.inl y12, h10)
  else
  some (.inr "java/util/NoSuchElementException", jt h10)))) jfu a0 a1 a2 0 1 h1
theorem P_X12_listed (X : jx) (a0 : Nat) (a1 : Int32) (a2 : Int32) (h : jh) : jv_P X M_X12_listed jeIX [.ref (a0), .int (a1), .int (a2)] h (f_X12_listed a0 a1 a2 h) := by
  refine jv_P.of (by decide) rfl (by simp [Value.category]) (Nat.le_of_ble_eq_true rfl) ?_
  show jv_O X M_X12_listed (h.1, h.2.1) jeIX 0 [some (.ref (a0)), some (.int (a1)), some (.int (a2)), none, none, none] [] h (f_X12_listed a0 a1 a2 h)
  unfold f_X12_listed
  refine jv_aload_n (jv_dk t_X12_listed (k := 0) rfl) rfl rfl (Or.inr ⟨_, rfl⟩) ?_
  refine jv_iconst (v := 0) (jv_dk t_X12_listed (k := 1) rfl) (by decide) ?_
  refine jv_iload_n (jv_dk t_X12_listed (k := 2) rfl) rfl rfl ?_
  refine jv_callVX (en' := jeVX) (pv := jpV) (As := [.int (0), .int (a1)]) (S := []) (jv_dk t_X12_listed (k := 3) rfl) (fun _ => rfl) (fun _ => rfl) (fun _ => rfl) rfl lk_X12_216 me_X12_needSpace mv_X12_needSpace ⟨by decide, by decide⟩ rfl rfl rfl (Nat.le_of_ble_eq_true rfl) (P_X12_needSpace X a0 0 a1 h) (fun _ h1 => ?_)
  show jv_O X M_X12_listed _ jeIX 6 [some (.ref (a0)), some (.int (a1)), some (.int (a2)), none, none, none] [] h1 _
  refine jv_iconst (v := 0) (jv_dk t_X12_listed (k := 4) rfl) (by decide) ?_
  refine jv_istore_n (L' := [some (.ref (a0)), some (.int (a1)), some (.int (a2)), some (.int (0)), none, none]) (jv_dk t_X12_listed (k := 5) rfl) rfl (Nat.le_of_ble_eq_true rfl) rfl ?_
  refine jv_iconst (v := 1) (jv_dk t_X12_listed (k := 6) rfl) (by decide) ?_
  refine jv_istore (L' := [some (.ref (a0)), some (.int (a1)), some (.int (a2)), some (.int (0)), some (.int (1)), none]) (jv_dk t_X12_listed (k := 7) rfl) (Nat.le_of_ble_eq_true rfl) rfl ?_
  refine o_f_X12_listed_h11 (fun y11 y12 h10 => ?_) _ _ _ _ _ _ 
  show jv_O X M_X12_listed _ jeIX 59 [none, none, some (.int (y11)), some (.int (y12)), none, none] [] h10 _
  refine jv_iload_n (jv_dk t_X12_listed (k := 30) rfl) rfl rfl ?_
  refine jv_iconst (v := (-1)) (jv_dk t_X12_listed (k := 31) rfl) (by decide) ?_
  refine jv_icmp_eq (tgt := 72) (jv_dk t_X12_listed (k := 32) rfl) rfl (fun c13 => ?_) (fun c13 => ?_)
  · refine jv_iload_n (jv_dk t_X12_listed (k := 37) rfl) rfl rfl ?_
    exact jv_iret (ty := .int) (jv_dk t_X12_listed (k := 38) rfl) rfl rfl rfl
  · show jv_O _ _ _ _ 64 _ _ _ _
    exact jv_throw (jv_dk t_X12_listed (k := 33) rfl) (jv_dk t_X12_listed (k := 34) rfl) (jv_dk t_X12_listed (k := 35) rfl) (jv_dk t_X12_listed (k := 36) rfl) rfl rfl (by decide) tw_146_148 (Nat.le_of_ble_eq_true rfl) ⟨by decide, by decide⟩ rfl
def t0_X12_needId : List (Nat × Instr × Nat) := [(0, .iload_n 0, 1), (1, .invokestatic 378, 3), (4, .ifCond .ne 11, 3), (7, .new 65, 3), (10, .dup, 1), (11, .invokespecial 67, 3), (14, .athrow, 1), (15, .return_, 1)]
theorem t_X12_needId : jv_dec cX12_needId t0_X12_needId = true := by decide +kernel
def M_X12_needId : jm := (yX12_needId, cX12_needId, 1, none, 6, 100, [])
theorem lk_X12_378 : Cond.methodLink RX12 378 M_X12_isId.1 ∈ lw_tbl := (jv_at 1209 (by decide +kernel))
def f_X12_needId (a0 : Int32) (h : jh) : Option ((Unit ⊕ String) × jh) :=
  bd (f_X12_isId a0 h) fun v1 h2 =>
  (if ¬ v1 = 0 then
  some (.inl (), h2)
  else
  some (.inr "java/lang/IllegalArgumentException", jt h2))
theorem P_X12_needId (X : jx) (a0 : Int32) (h : jh) : jv_P X M_X12_needId jeVX [.int (a0)] h (f_X12_needId a0 h) := by
  refine jv_P.of (by decide) rfl (by simp [Value.category]) (Nat.le_of_ble_eq_true rfl) ?_
  show jv_O X M_X12_needId (h.1, h.2.1) jeVX 0 [some (.int (a0))] [] h (f_X12_needId a0 h)
  unfold f_X12_needId
  refine jv_iload_n (jv_dk t_X12_needId (k := 0) rfl) rfl rfl ?_
  refine jv_callS (en' := jeI) (pv := jpI) (As := [.int (a0)]) (S := []) (jv_dk t_X12_needId (k := 1) rfl) (fun _ => rfl) (Or.inl lk_X12_378) me_X12_isId ms_X12_isId ⟨by decide, by decide⟩ rfl rfl (Nat.le_of_ble_eq_true rfl) (P_X12_isId X a0 h) (fun v1 h2 => ?_)
  show jv_O X M_X12_needId _ jeVX 4 [some (.int (a0))] [.int (v1)] h2 _
  refine jv_if_ne (tgt := 15) (jv_dk t_X12_needId (k := 2) rfl) rfl (fun c3 => ?_) (fun c3 => ?_)
  · exact jv_vret (jv_dk t_X12_needId (k := 7) rfl) rfl rfl
  · show jv_O _ _ _ _ 7 _ _ _ _
    exact jv_throw (jv_dk t_X12_needId (k := 3) rfl) (jv_dk t_X12_needId (k := 4) rfl) (jv_dk t_X12_needId (k := 5) rfl) (jv_dk t_X12_needId (k := 6) rfl) rfl rfl (by decide) tw_65_67 (Nat.le_of_ble_eq_true rfl) ⟨by decide, by decide⟩ rfl
def t0_X12_inside : List (Nat × Instr × Nat) := [(0, .aload_n 0, 1), (1, .iconst 1, 1), (2, .iload_n 1, 1), (3, .invokevirtual 216, 3), (6, .iload_n 2, 1), (7, .invokestatic 223, 3), (10, .aload_n 0, 1), (11, .getfield 10, 3), (14, .getfield 82, 3), (17, .getfield 125, 3), (20, .iload_n 1, 1), (21, .iload_n 2, 1), (22, .invokevirtual 174, 3), (25, .ireturn, 1)]
theorem t_X12_inside : jv_dec cX12_inside t0_X12_inside = true := by decide +kernel
def M_X12_inside : jm := (yX12_inside, cX12_inside, 3, (some .int), 7, 123, [])
theorem lk_X12_223 : Cond.methodLink RX12 223 M_X12_needId.1 ∈ lw_tbl := (jv_at 1206 (by decide +kernel))
set_option maxRecDepth 20000 in
theorem me_X12_needId : jv_me M_X12_needId 1 := ⟨(jv_in5 (List.mem_of_getElem? (i := 88) rfl)), (jv_at 161 (by decide +kernel)), ⟨by decide, by decide⟩, by decide +kernel⟩
theorem ms_X12_needId : jv_ms M_X12_needId := (jv_at 1207 (by decide +kernel))
def f_X12_inside (a0 : Nat) (a1 : Int32) (a2 : Int32) (h : jh) : Option ((Int32 ⊕ String) × jh) :=
  cVX h a0 10 (f_X12_needSpace a0 1 a1 h) fun _ h1 =>
  bX (f_X12_needId a2 h1) fun _ h2 =>
  gR h2 a0 10 0 fun v3 =>
  gR h2 v3 6 0 fun v4 =>
  gR h2 v4 9 2 fun v5 =>
  cV h2 v5 8 (f_X10_inward v5 a1 a2 h2) fun v6 h7 =>
  some (.inl v6, h7)
theorem P_X12_inside (X : jx) (a0 : Nat) (a1 : Int32) (a2 : Int32) (h : jh) : jv_P X M_X12_inside jeIX [.ref (a0), .int (a1), .int (a2)] h (f_X12_inside a0 a1 a2 h) := by
  refine jv_P.of (by decide) rfl (by simp [Value.category]) (Nat.le_of_ble_eq_true rfl) ?_
  show jv_O X M_X12_inside (h.1, h.2.1) jeIX 0 [some (.ref (a0)), some (.int (a1)), some (.int (a2))] [] h (f_X12_inside a0 a1 a2 h)
  unfold f_X12_inside
  refine jv_aload_n (jv_dk t_X12_inside (k := 0) rfl) rfl rfl (Or.inr ⟨_, rfl⟩) ?_
  refine jv_iconst (v := 1) (jv_dk t_X12_inside (k := 1) rfl) (by decide) ?_
  refine jv_iload_n (jv_dk t_X12_inside (k := 2) rfl) rfl rfl ?_
  refine jv_callVX (en' := jeVX) (pv := jpV) (As := [.int (1), .int (a1)]) (S := []) (jv_dk t_X12_inside (k := 3) rfl) (fun _ => rfl) (fun _ => rfl) (fun _ => rfl) rfl lk_X12_216 me_X12_needSpace mv_X12_needSpace ⟨by decide, by decide⟩ rfl rfl rfl (Nat.le_of_ble_eq_true rfl) (P_X12_needSpace X a0 1 a1 h) (fun _ h1 => ?_)
  show jv_O X M_X12_inside _ jeIX 6 [some (.ref (a0)), some (.int (a1)), some (.int (a2))] [] h1 _
  refine jv_iload_n (jv_dk t_X12_inside (k := 4) rfl) rfl rfl ?_
  refine jv_callSX (en' := jeVX) (pv := jpV) (As := [.int (a2)]) (S := []) (jv_dk t_X12_inside (k := 5) rfl) (fun _ => rfl) (fun _ => rfl) (fun _ => rfl) rfl lk_X12_223 me_X12_needId ms_X12_needId ⟨by decide, by decide⟩ rfl rfl (Nat.le_of_ble_eq_true rfl) (P_X12_needId X a2 h1) (fun _ h2 => ?_)
  show jv_O X M_X12_inside _ jeIX 10 [some (.ref (a0)), some (.int (a1)), some (.int (a2))] [] h2 _
  refine jv_aload_n (jv_dk t_X12_inside (k := 6) rfl) rfl rfl (Or.inr ⟨_, rfl⟩) ?_
  refine jv_gR (jv_dk t_X12_inside (k := 7) rfl) fl_X12_10 (fun v3 => ?_)
  refine jv_gR (jv_dk t_X12_inside (k := 8) rfl) fl_X12_82 (fun v4 => ?_)
  refine jv_gR (jv_dk t_X12_inside (k := 9) rfl) fl_X12_125 (fun v5 => ?_)
  refine jv_iload_n (jv_dk t_X12_inside (k := 10) rfl) rfl rfl ?_
  refine jv_iload_n (jv_dk t_X12_inside (k := 11) rfl) rfl rfl ?_
  refine jv_callV (en' := jeI) (pv := jpI) (As := [.int (a1), .int (a2)]) (S := []) (jv_dk t_X12_inside (k := 12) rfl) (fun _ => rfl) lk_X12_174 me_X10_inward mv_X10_inward ⟨by decide, by decide⟩ rfl rfl rfl (Nat.le_of_ble_eq_true rfl) (P_X10_inward X v5 a1 a2 h2) (fun v6 h7 => ?_)
  show jv_O X M_X12_inside _ jeIX 25 [some (.ref (a0)), some (.int (a1)), some (.int (a2))] [.int (v6)] h7 _
  exact jv_iret (ty := .int) (jv_dk t_X12_inside (k := 13) rfl) rfl rfl rfl
def t0_X12_outside : List (Nat × Instr × Nat) := [(0, .aload_n 0, 1), (1, .iconst 1, 1), (2, .iload_n 1, 1), (3, .invokevirtual 216, 3), (6, .iload_n 2, 1), (7, .invokestatic 223, 3), (10, .aload_n 0, 1), (11, .getfield 10, 3), (14, .getfield 82, 3), (17, .getfield 125, 3), (20, .iload_n 1, 1), (21, .iload_n 2, 1), (22, .invokevirtual 226, 3), (25, .ireturn, 1)]
theorem t_X12_outside : jv_dec cX12_outside t0_X12_outside = true := by decide +kernel
def M_X12_outside : jm := (yX12_outside, cX12_outside, 3, (some .int), 7, 123, [])
theorem lk_X12_226 : jv_lk RX12 226 M_X10_outward := Or.inr ⟨"SpaceWarden", (jv_at 1217 (by decide +kernel))⟩
def f_X12_outside (a0 : Nat) (a1 : Int32) (a2 : Int32) (h : jh) : Option ((Int32 ⊕ String) × jh) :=
  cVX h a0 10 (f_X12_needSpace a0 1 a1 h) fun _ h1 =>
  bX (f_X12_needId a2 h1) fun _ h2 =>
  gR h2 a0 10 0 fun v3 =>
  gR h2 v3 6 0 fun v4 =>
  gR h2 v4 9 2 fun v5 =>
  cV h2 v5 8 (f_X10_outward v5 a1 a2 h2) fun v6 h7 =>
  some (.inl v6, h7)
theorem P_X12_outside (X : jx) (a0 : Nat) (a1 : Int32) (a2 : Int32) (h : jh) : jv_P X M_X12_outside jeIX [.ref (a0), .int (a1), .int (a2)] h (f_X12_outside a0 a1 a2 h) := by
  refine jv_P.of (by decide) rfl (by simp [Value.category]) (Nat.le_of_ble_eq_true rfl) ?_
  show jv_O X M_X12_outside (h.1, h.2.1) jeIX 0 [some (.ref (a0)), some (.int (a1)), some (.int (a2))] [] h (f_X12_outside a0 a1 a2 h)
  unfold f_X12_outside
  refine jv_aload_n (jv_dk t_X12_outside (k := 0) rfl) rfl rfl (Or.inr ⟨_, rfl⟩) ?_
  refine jv_iconst (v := 1) (jv_dk t_X12_outside (k := 1) rfl) (by decide) ?_
  refine jv_iload_n (jv_dk t_X12_outside (k := 2) rfl) rfl rfl ?_
  refine jv_callVX (en' := jeVX) (pv := jpV) (As := [.int (1), .int (a1)]) (S := []) (jv_dk t_X12_outside (k := 3) rfl) (fun _ => rfl) (fun _ => rfl) (fun _ => rfl) rfl lk_X12_216 me_X12_needSpace mv_X12_needSpace ⟨by decide, by decide⟩ rfl rfl rfl (Nat.le_of_ble_eq_true rfl) (P_X12_needSpace X a0 1 a1 h) (fun _ h1 => ?_)
  show jv_O X M_X12_outside _ jeIX 6 [some (.ref (a0)), some (.int (a1)), some (.int (a2))] [] h1 _
  refine jv_iload_n (jv_dk t_X12_outside (k := 4) rfl) rfl rfl ?_
  refine jv_callSX (en' := jeVX) (pv := jpV) (As := [.int (a2)]) (S := []) (jv_dk t_X12_outside (k := 5) rfl) (fun _ => rfl) (fun _ => rfl) (fun _ => rfl) rfl lk_X12_223 me_X12_needId ms_X12_needId ⟨by decide, by decide⟩ rfl rfl (Nat.le_of_ble_eq_true rfl) (P_X12_needId X a2 h1) (fun _ h2 => ?_)
  show jv_O X M_X12_outside _ jeIX 10 [some (.ref (a0)), some (.int (a1)), some (.int (a2))] [] h2 _
  refine jv_aload_n (jv_dk t_X12_outside (k := 6) rfl) rfl rfl (Or.inr ⟨_, rfl⟩) ?_
  refine jv_gR (jv_dk t_X12_outside (k := 7) rfl) fl_X12_10 (fun v3 => ?_)
  refine jv_gR (jv_dk t_X12_outside (k := 8) rfl) fl_X12_82 (fun v4 => ?_)
  refine jv_gR (jv_dk t_X12_outside (k := 9) rfl) fl_X12_125 (fun v5 => ?_)
  refine jv_iload_n (jv_dk t_X12_outside (k := 10) rfl) rfl rfl ?_
  refine jv_iload_n (jv_dk t_X12_outside (k := 11) rfl) rfl rfl ?_
  refine jv_callV (en' := jeI) (pv := jpI) (As := [.int (a1), .int (a2)]) (S := []) (jv_dk t_X12_outside (k := 12) rfl) (fun _ => rfl) lk_X12_226 me_X10_outward mv_X10_outward ⟨by decide, by decide⟩ rfl rfl rfl (Nat.le_of_ble_eq_true rfl) (P_X10_outward X v5 a1 a2 h2) (fun v6 h7 => ?_)
  show jv_O X M_X12_outside _ jeIX 25 [some (.ref (a0)), some (.int (a1)), some (.int (a2))] [.int (v6)] h7 _
  exact jv_iret (ty := .int) (jv_dk t_X12_outside (k := 13) rfl) rfl rfl rfl
def t0_X12_range : List (Nat × Instr × Nat) := [(0, .aload_n 0, 1), (1, .iconst 1, 1), (2, .iload_n 1, 1), (3, .invokevirtual 216, 3), (6, .aload_n 0, 1), (7, .getfield 10, 3), (10, .getfield 82, 3), (13, .getfield 125, 3), (16, .astore 4, 2), (18, .iload_n 2, 1), (19, .ifCond .lt 14, 3), (22, .iload_n 2, 1), (23, .aload 4, 2), (25, .getfield 229, 3), (28, .iload_n 1, 1), (29, .iaload, 1), (30, .if_icmp .lt 11, 3), (33, .new 146, 3), (36, .dup, 1), (37, .invokespecial 148, 3), (40, .athrow, 1), (41, .iload_n 1, 1), (42, .iconst 3, 1), (43, .imul, 1), (44, .iload_n 2, 1), (45, .iadd, 1), (46, .istore 5, 2), (48, .iload_n 3, 1), (49, .tableswitch 54 0 2 #[27, 36, 45], 27), (76, .aload 4, 2), (78, .getfield 232, 3), (81, .iload 5, 2), (83, .iaload, 1), (84, .ireturn, 1), (85, .aload 4, 2), (87, .getfield 235, 3), (90, .iload 5, 2), (92, .iaload, 1), (93, .ireturn, 1), (94, .aload 4, 2), (96, .getfield 238, 3), (99, .iload 5, 2), (101, .iaload, 1), (102, .ireturn, 1), (103, .new 146, 3), (106, .dup, 1), (107, .invokespecial 148, 3), (110, .athrow, 1)]
theorem t_X12_range : jv_dec cX12_range t0_X12_range = true := by decide +kernel
def M_X12_range : jm := (yX12_range, cX12_range, 6, (some .int), 7, 123, [])
theorem fl_X12_229 : jv_F RX12 229 8 2 RX10 TX10 6 := ⟨rfl, by decide, inX10, Or.inr ⟨"SpaceWarden", (jv_at 318 (by decide +kernel))⟩⟩
theorem fl_X12_238 : jv_F RX12 238 8 5 RX10 TX10 6 := ⟨rfl, by decide, inX10, Or.inr ⟨"SpaceWarden", (jv_at 324 (by decide +kernel))⟩⟩
theorem fl_X12_235 : jv_F RX12 235 8 4 RX10 TX10 6 := ⟨rfl, by decide, inX10, Or.inr ⟨"SpaceWarden", (jv_at 322 (by decide +kernel))⟩⟩
theorem fl_X12_232 : jv_F RX12 232 8 3 RX10 TX10 6 := ⟨rfl, by decide, inX10, Or.inr ⟨"SpaceWarden", (jv_at 320 (by decide +kernel))⟩⟩
def f_X12_range (a0 : Nat) (a1 : Int32) (a2 : Int32) (a3 : Int32) (h : jh) : Option ((Int32 ⊕ String) × jh) :=
  cVX h a0 10 (f_X12_needSpace a0 1 a1 h) fun _ h1 =>
  gR h1 a0 10 0 fun v2 =>
  gR h1 v2 6 0 fun v3 =>
  gR h1 v3 9 2 fun v4 =>
  (if a2 < 0 then
  some (.inr "java/util/NoSuchElementException", jt h1)
  else
  gR h1 v4 8 2 fun v6 =>
  aI h1 v6 a1 fun v7 =>
  (if a2 < v7 then
  (if a3 = 0 then
  gR h1 v4 8 3 fun v16 =>
  aI h1 v16 ((a1 * 3) + a2) fun v17 =>
  some (.inl v17, h1)
  else
  (if a3 = 1 then
  gR h1 v4 8 4 fun v14 =>
  aI h1 v14 ((a1 * 3) + a2) fun v15 =>
  some (.inl v15, h1)
  else
  (if a3 = 2 then
  gR h1 v4 8 5 fun v12 =>
  aI h1 v12 ((a1 * 3) + a2) fun v13 =>
  some (.inl v13, h1)
  else
  some (.inr "java/util/NoSuchElementException", jt h1))))
  else
  some (.inr "java/util/NoSuchElementException", jt h1)))
theorem P_X12_range (X : jx) (a0 : Nat) (a1 : Int32) (a2 : Int32) (a3 : Int32) (h : jh) : jv_P X M_X12_range jeIX [.ref (a0), .int (a1), .int (a2), .int (a3)] h (f_X12_range a0 a1 a2 a3 h) := by
  refine jv_P.of (by decide) rfl (by simp [Value.category]) (Nat.le_of_ble_eq_true rfl) ?_
  show jv_O X M_X12_range (h.1, h.2.1) jeIX 0 [some (.ref (a0)), some (.int (a1)), some (.int (a2)), some (.int (a3)), none, none] [] h (f_X12_range a0 a1 a2 a3 h)
  unfold f_X12_range
  refine jv_aload_n (jv_dk t_X12_range (k := 0) rfl) rfl rfl (Or.inr ⟨_, rfl⟩) ?_
  refine jv_iconst (v := 1) (jv_dk t_X12_range (k := 1) rfl) (by decide) ?_
  refine jv_iload_n (jv_dk t_X12_range (k := 2) rfl) rfl rfl ?_
  refine jv_callVX (en' := jeVX) (pv := jpV) (As := [.int (1), .int (a1)]) (S := []) (jv_dk t_X12_range (k := 3) rfl) (fun _ => rfl) (fun _ => rfl) (fun _ => rfl) rfl lk_X12_216 me_X12_needSpace mv_X12_needSpace ⟨by decide, by decide⟩ rfl rfl rfl (Nat.le_of_ble_eq_true rfl) (P_X12_needSpace X a0 1 a1 h) (fun _ h1 => ?_)
  show jv_O X M_X12_range _ jeIX 6 [some (.ref (a0)), some (.int (a1)), some (.int (a2)), some (.int (a3)), none, none] [] h1 _
  refine jv_aload_n (jv_dk t_X12_range (k := 4) rfl) rfl rfl (Or.inr ⟨_, rfl⟩) ?_
  refine jv_gR (jv_dk t_X12_range (k := 5) rfl) fl_X12_10 (fun v2 => ?_)
  refine jv_gR (jv_dk t_X12_range (k := 6) rfl) fl_X12_82 (fun v3 => ?_)
  refine jv_gR (jv_dk t_X12_range (k := 7) rfl) fl_X12_125 (fun v4 => ?_)
  refine jv_astore (L' := [some (.ref (a0)), some (.int (a1)), some (.int (a2)), some (.int (a3)), some (.ref (v4)), none]) (jv_dk t_X12_range (k := 8) rfl) (Nat.le_of_ble_eq_true rfl) (Or.inr ⟨_, rfl⟩) rfl ?_
  refine jv_iload_n (jv_dk t_X12_range (k := 9) rfl) rfl rfl ?_
  refine jv_if_lt (tgt := 33) (jv_dk t_X12_range (k := 10) rfl) rfl (fun c5 => ?_) (fun c5 => ?_)
  · exact jv_throw (jv_dk t_X12_range (k := 17) rfl) (jv_dk t_X12_range (k := 18) rfl) (jv_dk t_X12_range (k := 19) rfl) (jv_dk t_X12_range (k := 20) rfl) rfl rfl (by decide) tw_146_148 (Nat.le_of_ble_eq_true rfl) ⟨by decide, by decide⟩ rfl
  · show jv_O _ _ _ _ 22 _ _ _ _
    refine jv_iload_n (jv_dk t_X12_range (k := 11) rfl) rfl rfl ?_
    refine jv_aload (jv_dk t_X12_range (k := 12) rfl) rfl (Or.inr ⟨_, rfl⟩) ?_
    refine jv_gR (jv_dk t_X12_range (k := 13) rfl) fl_X12_229 (fun v6 => ?_)
    refine jv_iload_n (jv_dk t_X12_range (k := 14) rfl) rfl rfl ?_
    refine jv_iaload (jv_dk t_X12_range (k := 15) rfl) (fun v7 => ?_)
    refine jv_icmp_lt (tgt := 41) (jv_dk t_X12_range (k := 16) rfl) rfl (fun c8 => ?_) (fun c8 => ?_)
    · refine jv_iload_n (jv_dk t_X12_range (k := 21) rfl) rfl rfl ?_
      refine jv_iconst (v := 3) (jv_dk t_X12_range (k := 22) rfl) (by decide) ?_
      refine jv_imul (jv_dk t_X12_range (k := 23) rfl) ?_
      refine jv_iload_n (jv_dk t_X12_range (k := 24) rfl) rfl rfl ?_
      refine jv_iadd (jv_dk t_X12_range (k := 25) rfl) ?_
      refine jv_istore (L' := [some (.ref (a0)), some (.int (a1)), some (.int (a2)), some (.int (a3)), some (.ref (v4)), some (.int ((a1 * 3) + a2))]) (jv_dk t_X12_range (k := 26) rfl) (Nat.le_of_ble_eq_true rfl) rfl ?_
      refine jv_iload_n (jv_dk t_X12_range (k := 27) rfl) rfl rfl ?_
      by_cases c9 : a3 = 0
      · rw [if_pos c9]
        refine jv_tbl (tgt := 76) (jv_dk t_X12_range (k := 28) rfl) (by rw [c9] <;> decide) (by rw [c9] <;> decide) (by rw [c9] <;> rfl) rfl ?_
        refine jv_aload (jv_dk t_X12_range (k := 29) rfl) rfl (Or.inr ⟨_, rfl⟩) ?_
        refine jv_gR (jv_dk t_X12_range (k := 30) rfl) fl_X12_232 (fun v16 => ?_)
        refine jv_iload (jv_dk t_X12_range (k := 31) rfl) rfl ?_
        refine jv_iaload (jv_dk t_X12_range (k := 32) rfl) (fun v17 => ?_)
        exact jv_iret (ty := .int) (jv_dk t_X12_range (k := 33) rfl) rfl rfl rfl
      rw [if_neg c9]
      by_cases c10 : a3 = 1
      · rw [if_pos c10]
        refine jv_tbl (tgt := 85) (jv_dk t_X12_range (k := 28) rfl) (by rw [c10] <;> decide) (by rw [c10] <;> decide) (by rw [c10] <;> rfl) rfl ?_
        refine jv_aload (jv_dk t_X12_range (k := 34) rfl) rfl (Or.inr ⟨_, rfl⟩) ?_
        refine jv_gR (jv_dk t_X12_range (k := 35) rfl) fl_X12_235 (fun v14 => ?_)
        refine jv_iload (jv_dk t_X12_range (k := 36) rfl) rfl ?_
        refine jv_iaload (jv_dk t_X12_range (k := 37) rfl) (fun v15 => ?_)
        exact jv_iret (ty := .int) (jv_dk t_X12_range (k := 38) rfl) rfl rfl rfl
      rw [if_neg c10]
      by_cases c11 : a3 = 2
      · rw [if_pos c11]
        refine jv_tbl (tgt := 94) (jv_dk t_X12_range (k := 28) rfl) (by rw [c11] <;> decide) (by rw [c11] <;> decide) (by rw [c11] <;> rfl) rfl ?_
        refine jv_aload (jv_dk t_X12_range (k := 39) rfl) rfl (Or.inr ⟨_, rfl⟩) ?_
        refine jv_gR (jv_dk t_X12_range (k := 40) rfl) fl_X12_238 (fun v12 => ?_)
        refine jv_iload (jv_dk t_X12_range (k := 41) rfl) rfl ?_
        refine jv_iaload (jv_dk t_X12_range (k := 42) rfl) (fun v13 => ?_)
        exact jv_iret (ty := .int) (jv_dk t_X12_range (k := 43) rfl) rfl rfl rfl
      rw [if_neg c11]
      have e_c9 := jv_ne (x := a3) (k := 0) (by decide) (by decide) c9
      have e_c10 := jv_ne (x := a3) (k := 1) (by decide) (by decide) c10
      have e_c11 := jv_ne (x := a3) (k := 2) (by decide) (by decide) c11
      refine jv_tblOut (tgt := 103) (jv_dk t_X12_range (k := 28) rfl) (by omega) rfl ?_
      exact jv_throw (jv_dk t_X12_range (k := 44) rfl) (jv_dk t_X12_range (k := 45) rfl) (jv_dk t_X12_range (k := 46) rfl) (jv_dk t_X12_range (k := 47) rfl) rfl rfl (by decide) tw_146_148 (Nat.le_of_ble_eq_true rfl) ⟨by decide, by decide⟩ rfl
    · show jv_O _ _ _ _ 33 _ _ _ _
      exact jv_throw (jv_dk t_X12_range (k := 17) rfl) (jv_dk t_X12_range (k := 18) rfl) (jv_dk t_X12_range (k := 19) rfl) (jv_dk t_X12_range (k := 20) rfl) rfl rfl (by decide) tw_146_148 (Nat.le_of_ble_eq_true rfl) ⟨by decide, by decide⟩ rfl
def t0_X12_mounted : List (Nat × Instr × Nat) := [(0, .aload_n 0, 1), (1, .iconst 2, 1), (2, .iload_n 1, 1), (3, .invokevirtual 216, 3), (6, .iload_n 2, 1), (7, .ifCond .lt 9, 3), (10, .iload_n 2, 1), (11, .bipush 8, 2), (13, .if_icmp .lt 11, 3), (16, .new 146, 3), (19, .dup, 1), (20, .invokespecial 148, 3), (23, .athrow, 1), (24, .aload_n 0, 1), (25, .getfield 10, 3), (28, .getfield 82, 3), (31, .getfield 132, 3), (34, .getfield 241, 3), (37, .iload_n 1, 1), (38, .bipush 8, 2), (40, .imul, 1), (41, .iload_n 2, 1), (42, .iadd, 1), (43, .iaload, 1), (44, .ireturn, 1)]
theorem t_X12_mounted : jv_dec cX12_mounted t0_X12_mounted = true := by decide +kernel
def M_X12_mounted : jm := (yX12_mounted, cX12_mounted, 3, (some .int), 7, 123, [])
theorem fl_X12_241 : jv_F RX12 241 0 2 RX2 TX2 4 := ⟨rfl, by decide, inX2, Or.inr ⟨"SpaceWarden", (jv_at 353 (by decide +kernel))⟩⟩
def f_X12_mounted (a0 : Nat) (a1 : Int32) (a2 : Int32) (h : jh) : Option ((Int32 ⊕ String) × jh) :=
  cVX h a0 10 (f_X12_needSpace a0 2 a1 h) fun _ h1 =>
  (if a2 < 0 then
  some (.inr "java/util/NoSuchElementException", jt h1)
  else
  (if a2 < 8 then
  gR h1 a0 10 0 fun v4 =>
  gR h1 v4 6 0 fun v5 =>
  gR h1 v5 9 3 fun v6 =>
  gR h1 v6 0 2 fun v7 =>
  aI h1 v7 ((a1 * 8) + a2) fun v8 =>
  some (.inl v8, h1)
  else
  some (.inr "java/util/NoSuchElementException", jt h1)))
theorem P_X12_mounted (X : jx) (a0 : Nat) (a1 : Int32) (a2 : Int32) (h : jh) : jv_P X M_X12_mounted jeIX [.ref (a0), .int (a1), .int (a2)] h (f_X12_mounted a0 a1 a2 h) := by
  refine jv_P.of (by decide) rfl (by simp [Value.category]) (Nat.le_of_ble_eq_true rfl) ?_
  show jv_O X M_X12_mounted (h.1, h.2.1) jeIX 0 [some (.ref (a0)), some (.int (a1)), some (.int (a2))] [] h (f_X12_mounted a0 a1 a2 h)
  unfold f_X12_mounted
  refine jv_aload_n (jv_dk t_X12_mounted (k := 0) rfl) rfl rfl (Or.inr ⟨_, rfl⟩) ?_
  refine jv_iconst (v := 2) (jv_dk t_X12_mounted (k := 1) rfl) (by decide) ?_
  refine jv_iload_n (jv_dk t_X12_mounted (k := 2) rfl) rfl rfl ?_
  refine jv_callVX (en' := jeVX) (pv := jpV) (As := [.int (2), .int (a1)]) (S := []) (jv_dk t_X12_mounted (k := 3) rfl) (fun _ => rfl) (fun _ => rfl) (fun _ => rfl) rfl lk_X12_216 me_X12_needSpace mv_X12_needSpace ⟨by decide, by decide⟩ rfl rfl rfl (Nat.le_of_ble_eq_true rfl) (P_X12_needSpace X a0 2 a1 h) (fun _ h1 => ?_)
  show jv_O X M_X12_mounted _ jeIX 6 [some (.ref (a0)), some (.int (a1)), some (.int (a2))] [] h1 _
  refine jv_iload_n (jv_dk t_X12_mounted (k := 4) rfl) rfl rfl ?_
  refine jv_if_lt (tgt := 16) (jv_dk t_X12_mounted (k := 5) rfl) rfl (fun c2 => ?_) (fun c2 => ?_)
  · exact jv_throw (jv_dk t_X12_mounted (k := 9) rfl) (jv_dk t_X12_mounted (k := 10) rfl) (jv_dk t_X12_mounted (k := 11) rfl) (jv_dk t_X12_mounted (k := 12) rfl) rfl rfl (by decide) tw_146_148 (Nat.le_of_ble_eq_true rfl) ⟨by decide, by decide⟩ rfl
  · show jv_O _ _ _ _ 10 _ _ _ _
    refine jv_iload_n (jv_dk t_X12_mounted (k := 6) rfl) rfl rfl ?_
    refine jv_bipush (v := 8) (jv_dk t_X12_mounted (k := 7) rfl) (by decide) ?_
    refine jv_icmp_lt (tgt := 24) (jv_dk t_X12_mounted (k := 8) rfl) rfl (fun c3 => ?_) (fun c3 => ?_)
    · refine jv_aload_n (jv_dk t_X12_mounted (k := 13) rfl) rfl rfl (Or.inr ⟨_, rfl⟩) ?_
      refine jv_gR (jv_dk t_X12_mounted (k := 14) rfl) fl_X12_10 (fun v4 => ?_)
      refine jv_gR (jv_dk t_X12_mounted (k := 15) rfl) fl_X12_82 (fun v5 => ?_)
      refine jv_gR (jv_dk t_X12_mounted (k := 16) rfl) fl_X12_132 (fun v6 => ?_)
      refine jv_gR (jv_dk t_X12_mounted (k := 17) rfl) fl_X12_241 (fun v7 => ?_)
      refine jv_iload_n (jv_dk t_X12_mounted (k := 18) rfl) rfl rfl ?_
      refine jv_bipush (v := 8) (jv_dk t_X12_mounted (k := 19) rfl) (by decide) ?_
      refine jv_imul (jv_dk t_X12_mounted (k := 20) rfl) ?_
      refine jv_iload_n (jv_dk t_X12_mounted (k := 21) rfl) rfl rfl ?_
      refine jv_iadd (jv_dk t_X12_mounted (k := 22) rfl) ?_
      refine jv_iaload (jv_dk t_X12_mounted (k := 23) rfl) (fun v8 => ?_)
      exact jv_iret (ty := .int) (jv_dk t_X12_mounted (k := 24) rfl) rfl rfl rfl
    · show jv_O _ _ _ _ 16 _ _ _ _
      exact jv_throw (jv_dk t_X12_mounted (k := 9) rfl) (jv_dk t_X12_mounted (k := 10) rfl) (jv_dk t_X12_mounted (k := 11) rfl) (jv_dk t_X12_mounted (k := 12) rfl) rfl rfl (by decide) tw_146_148 (Nat.le_of_ble_eq_true rfl) ⟨by decide, by decide⟩ rfl
def t0_X12_may : List (Nat × Instr × Nat) := [(0, .aload_n 0, 1), (1, .iload_n 1, 1), (2, .invokevirtual 149, 3), (5, .aload_n 0, 1), (6, .iload_n 2, 1), (7, .invokevirtual 149, 3), (10, .aload_n 0, 1), (11, .getfield 10, 3), (14, .getfield 82, 3), (17, .astore 4, 2), (19, .iload_n 3, 1), (20, .tableswitch 118 0 5 #[40, 51, 71, 82, 94, 106], 40), (60, .aload 4, 2), (62, .iload_n 1, 1), (63, .iload_n 2, 1), (64, .invokevirtual 244, 3), (67, .invokestatic 181, 3), (70, .ireturn, 1), (71, .aload 4, 2), (73, .iload_n 1, 1), (74, .aload 4, 2), (76, .getfield 97, 3), (79, .getfield 158, 3), (82, .iload_n 2, 1), (83, .iaload, 1), (84, .invokevirtual 248, 3), (87, .invokestatic 181, 3), (90, .ireturn, 1), (91, .aload 4, 2), (93, .iload_n 1, 1), (94, .iload_n 2, 1), (95, .invokevirtual 251, 3), (98, .invokestatic 181, 3), (101, .ireturn, 1), (102, .aload 4, 2), (104, .iload_n 1, 1), (105, .iload_n 2, 1), (106, .iconst 1, 1), (107, .invokevirtual 254, 3), (110, .invokestatic 181, 3), (113, .ireturn, 1), (114, .aload 4, 2), (116, .iload_n 1, 1), (117, .iload_n 2, 1), (118, .iconst 0, 1), (119, .invokevirtual 254, 3), (122, .invokestatic 181, 3), (125, .ireturn, 1), (126, .aload 4, 2), (128, .iload_n 1, 1), (129, .iload_n 2, 1), (130, .iconst 2, 1), (131, .invokevirtual 254, 3), (134, .invokestatic 181, 3), (137, .ireturn, 1), (138, .new 146, 3), (141, .dup, 1), (142, .invokespecial 148, 3), (145, .athrow, 1)]
theorem t_X12_may : jv_dec cX12_may t0_X12_may = true := by decide +kernel
def M_X12_may : jm := (yX12_may, cX12_may, 5, (some .int), 7, 121, [])
theorem lk_X12_254 : jv_lk RX12 254 M_X11_canEnter := Or.inr ⟨"SpaceWarden", (jv_at 1242 (by decide +kernel))⟩
theorem lk_X12_251 : jv_lk RX12 251 M_X11_canKill := Or.inr ⟨"SpaceWarden", (jv_at 1241 (by decide +kernel))⟩
theorem lk_X12_248 : jv_lk RX12 248 M_X11_rules := Or.inr ⟨"SpaceWarden", (jv_at 1240 (by decide +kernel))⟩
theorem lk_X12_244 : jv_lk RX12 244 M_X11_sees := Or.inr ⟨"SpaceWarden", (jv_at 1239 (by decide +kernel))⟩
def f_X12_may (a0 : Nat) (a1 : Int32) (a2 : Int32) (a3 : Int32) (h : jh) : Option ((Int32 ⊕ String) × jh) :=
  cVX h a0 10 (f_X12_needProcess a0 a1 h) fun _ h1 =>
  cVX h1 a0 10 (f_X12_needProcess a0 a2 h1) fun _ h2 =>
  gR h2 a0 10 0 fun v3 =>
  gR h2 v3 6 0 fun v4 =>
  (if a3 = 0 then
  cV h2 v4 9 (f_X11_sees v4 a1 a2 h2) fun v34 h35 =>
  bd (f_X12_bit v34 h35) fun v36 h37 =>
  some (.inl v36, h37)
  else
  (if a3 = 1 then
  gR h2 v4 9 0 fun v27 =>
  gR h2 v27 3 2 fun v28 =>
  aI h2 v28 a2 fun v29 =>
  cV h2 v4 9 (f_X11_rules v4 a1 v29 h2) fun v30 h31 =>
  bd (f_X12_bit v30 h31) fun v32 h33 =>
  some (.inl v32, h33)
  else
  (if a3 = 2 then
  cV h2 v4 9 (f_X11_canKill v4 a1 a2 h2) fun v23 h24 =>
  bd (f_X12_bit v23 h24) fun v25 h26 =>
  some (.inl v25, h26)
  else
  (if a3 = 3 then
  cV h2 v4 9 (f_X11_canEnter v4 a1 a2 1 h2) fun v19 h20 =>
  bd (f_X12_bit v19 h20) fun v21 h22 =>
  some (.inl v21, h22)
  else
  (if a3 = 4 then
  cV h2 v4 9 (f_X11_canEnter v4 a1 a2 0 h2) fun v15 h16 =>
  bd (f_X12_bit v15 h16) fun v17 h18 =>
  some (.inl v17, h18)
  else
  (if a3 = 5 then
  cV h2 v4 9 (f_X11_canEnter v4 a1 a2 2 h2) fun v11 h12 =>
  bd (f_X12_bit v11 h12) fun v13 h14 =>
  some (.inl v13, h14)
  else
  some (.inr "java/util/NoSuchElementException", jt h2)))))))
theorem P_X12_may (X : jx) (a0 : Nat) (a1 : Int32) (a2 : Int32) (a3 : Int32) (h : jh) : jv_P X M_X12_may jeIX [.ref (a0), .int (a1), .int (a2), .int (a3)] h (f_X12_may a0 a1 a2 a3 h) := by
  refine jv_P.of (by decide) rfl (by simp [Value.category]) (Nat.le_of_ble_eq_true rfl) ?_
  show jv_O X M_X12_may (h.1, h.2.1) jeIX 0 [some (.ref (a0)), some (.int (a1)), some (.int (a2)), some (.int (a3)), none] [] h (f_X12_may a0 a1 a2 a3 h)
  unfold f_X12_may
  refine jv_aload_n (jv_dk t_X12_may (k := 0) rfl) rfl rfl (Or.inr ⟨_, rfl⟩) ?_
  refine jv_iload_n (jv_dk t_X12_may (k := 1) rfl) rfl rfl ?_
  refine jv_callVX (en' := jeVX) (pv := jpV) (As := [.int (a1)]) (S := []) (jv_dk t_X12_may (k := 2) rfl) (fun _ => rfl) (fun _ => rfl) (fun _ => rfl) rfl lk_X12_149 me_X12_needProcess mv_X12_needProcess ⟨by decide, by decide⟩ rfl rfl rfl (Nat.le_of_ble_eq_true rfl) (P_X12_needProcess X a0 a1 h) (fun _ h1 => ?_)
  show jv_O X M_X12_may _ jeIX 5 [some (.ref (a0)), some (.int (a1)), some (.int (a2)), some (.int (a3)), none] [] h1 _
  refine jv_aload_n (jv_dk t_X12_may (k := 3) rfl) rfl rfl (Or.inr ⟨_, rfl⟩) ?_
  refine jv_iload_n (jv_dk t_X12_may (k := 4) rfl) rfl rfl ?_
  refine jv_callVX (en' := jeVX) (pv := jpV) (As := [.int (a2)]) (S := []) (jv_dk t_X12_may (k := 5) rfl) (fun _ => rfl) (fun _ => rfl) (fun _ => rfl) rfl lk_X12_149 me_X12_needProcess mv_X12_needProcess ⟨by decide, by decide⟩ rfl rfl rfl (Nat.le_of_ble_eq_true rfl) (P_X12_needProcess X a0 a2 h1) (fun _ h2 => ?_)
  show jv_O X M_X12_may _ jeIX 10 [some (.ref (a0)), some (.int (a1)), some (.int (a2)), some (.int (a3)), none] [] h2 _
  refine jv_aload_n (jv_dk t_X12_may (k := 6) rfl) rfl rfl (Or.inr ⟨_, rfl⟩) ?_
  refine jv_gR (jv_dk t_X12_may (k := 7) rfl) fl_X12_10 (fun v3 => ?_)
  refine jv_gR (jv_dk t_X12_may (k := 8) rfl) fl_X12_82 (fun v4 => ?_)
  refine jv_astore (L' := [some (.ref (a0)), some (.int (a1)), some (.int (a2)), some (.int (a3)), some (.ref (v4))]) (jv_dk t_X12_may (k := 9) rfl) (Nat.le_of_ble_eq_true rfl) (Or.inr ⟨_, rfl⟩) rfl ?_
  refine jv_iload_n (jv_dk t_X12_may (k := 10) rfl) rfl rfl ?_
  by_cases c5 : a3 = 0
  · rw [if_pos c5]
    refine jv_tbl (tgt := 60) (jv_dk t_X12_may (k := 11) rfl) (by rw [c5] <;> decide) (by rw [c5] <;> decide) (by rw [c5] <;> rfl) rfl ?_
    refine jv_aload (jv_dk t_X12_may (k := 12) rfl) rfl (Or.inr ⟨_, rfl⟩) ?_
    refine jv_iload_n (jv_dk t_X12_may (k := 13) rfl) rfl rfl ?_
    refine jv_iload_n (jv_dk t_X12_may (k := 14) rfl) rfl rfl ?_
    refine jv_callV (en' := jeI) (pv := jpI) (As := [.int (a1), .int (a2)]) (S := []) (jv_dk t_X12_may (k := 15) rfl) (fun _ => rfl) lk_X12_244 me_X11_sees mv_X11_sees ⟨by decide, by decide⟩ rfl rfl rfl (Nat.le_of_ble_eq_true rfl) (P_X11_sees X v4 a1 a2 h2) (fun v34 h35 => ?_)
    show jv_O X M_X12_may _ jeIX 67 [some (.ref (a0)), some (.int (a1)), some (.int (a2)), some (.int (a3)), some (.ref (v4))] [.int (v34)] h35 _
    refine jv_callS (en' := jeI) (pv := jpI) (As := [.int (v34)]) (S := []) (jv_dk t_X12_may (k := 16) rfl) (fun _ => rfl) (Or.inl lk_X12_181) me_X12_bit ms_X12_bit ⟨by decide, by decide⟩ rfl rfl (Nat.le_of_ble_eq_true rfl) (P_X12_bit X v34 h35) (fun v36 h37 => ?_)
    show jv_O X M_X12_may _ jeIX 70 [some (.ref (a0)), some (.int (a1)), some (.int (a2)), some (.int (a3)), some (.ref (v4))] [.int (v36)] h37 _
    exact jv_iret (ty := .int) (jv_dk t_X12_may (k := 17) rfl) rfl rfl rfl
  rw [if_neg c5]
  by_cases c6 : a3 = 1
  · rw [if_pos c6]
    refine jv_tbl (tgt := 71) (jv_dk t_X12_may (k := 11) rfl) (by rw [c6] <;> decide) (by rw [c6] <;> decide) (by rw [c6] <;> rfl) rfl ?_
    refine jv_aload (jv_dk t_X12_may (k := 18) rfl) rfl (Or.inr ⟨_, rfl⟩) ?_
    refine jv_iload_n (jv_dk t_X12_may (k := 19) rfl) rfl rfl ?_
    refine jv_aload (jv_dk t_X12_may (k := 20) rfl) rfl (Or.inr ⟨_, rfl⟩) ?_
    refine jv_gR (jv_dk t_X12_may (k := 21) rfl) fl_X12_97 (fun v27 => ?_)
    refine jv_gR (jv_dk t_X12_may (k := 22) rfl) fl_X12_158 (fun v28 => ?_)
    refine jv_iload_n (jv_dk t_X12_may (k := 23) rfl) rfl rfl ?_
    refine jv_iaload (jv_dk t_X12_may (k := 24) rfl) (fun v29 => ?_)
    refine jv_callV (en' := jeI) (pv := jpI) (As := [.int (a1), .int (v29)]) (S := []) (jv_dk t_X12_may (k := 25) rfl) (fun _ => rfl) lk_X12_248 me_X11_rules mv_X11_rules ⟨by decide, by decide⟩ rfl rfl rfl (Nat.le_of_ble_eq_true rfl) (P_X11_rules X v4 a1 v29 h2) (fun v30 h31 => ?_)
    show jv_O X M_X12_may _ jeIX 87 [some (.ref (a0)), some (.int (a1)), some (.int (a2)), some (.int (a3)), some (.ref (v4))] [.int (v30)] h31 _
    refine jv_callS (en' := jeI) (pv := jpI) (As := [.int (v30)]) (S := []) (jv_dk t_X12_may (k := 26) rfl) (fun _ => rfl) (Or.inl lk_X12_181) me_X12_bit ms_X12_bit ⟨by decide, by decide⟩ rfl rfl (Nat.le_of_ble_eq_true rfl) (P_X12_bit X v30 h31) (fun v32 h33 => ?_)
    show jv_O X M_X12_may _ jeIX 90 [some (.ref (a0)), some (.int (a1)), some (.int (a2)), some (.int (a3)), some (.ref (v4))] [.int (v32)] h33 _
    exact jv_iret (ty := .int) (jv_dk t_X12_may (k := 27) rfl) rfl rfl rfl
  rw [if_neg c6]
  by_cases c7 : a3 = 2
  · rw [if_pos c7]
    refine jv_tbl (tgt := 91) (jv_dk t_X12_may (k := 11) rfl) (by rw [c7] <;> decide) (by rw [c7] <;> decide) (by rw [c7] <;> rfl) rfl ?_
    refine jv_aload (jv_dk t_X12_may (k := 28) rfl) rfl (Or.inr ⟨_, rfl⟩) ?_
    refine jv_iload_n (jv_dk t_X12_may (k := 29) rfl) rfl rfl ?_
    refine jv_iload_n (jv_dk t_X12_may (k := 30) rfl) rfl rfl ?_
    refine jv_callV (en' := jeI) (pv := jpI) (As := [.int (a1), .int (a2)]) (S := []) (jv_dk t_X12_may (k := 31) rfl) (fun _ => rfl) lk_X12_251 me_X11_canKill mv_X11_canKill ⟨by decide, by decide⟩ rfl rfl rfl (Nat.le_of_ble_eq_true rfl) (P_X11_canKill X v4 a1 a2 h2) (fun v23 h24 => ?_)
    show jv_O X M_X12_may _ jeIX 98 [some (.ref (a0)), some (.int (a1)), some (.int (a2)), some (.int (a3)), some (.ref (v4))] [.int (v23)] h24 _
    refine jv_callS (en' := jeI) (pv := jpI) (As := [.int (v23)]) (S := []) (jv_dk t_X12_may (k := 32) rfl) (fun _ => rfl) (Or.inl lk_X12_181) me_X12_bit ms_X12_bit ⟨by decide, by decide⟩ rfl rfl (Nat.le_of_ble_eq_true rfl) (P_X12_bit X v23 h24) (fun v25 h26 => ?_)
    show jv_O X M_X12_may _ jeIX 101 [some (.ref (a0)), some (.int (a1)), some (.int (a2)), some (.int (a3)), some (.ref (v4))] [.int (v25)] h26 _
    exact jv_iret (ty := .int) (jv_dk t_X12_may (k := 33) rfl) rfl rfl rfl
  rw [if_neg c7]
  by_cases c8 : a3 = 3
  · rw [if_pos c8]
    refine jv_tbl (tgt := 102) (jv_dk t_X12_may (k := 11) rfl) (by rw [c8] <;> decide) (by rw [c8] <;> decide) (by rw [c8] <;> rfl) rfl ?_
    refine jv_aload (jv_dk t_X12_may (k := 34) rfl) rfl (Or.inr ⟨_, rfl⟩) ?_
    refine jv_iload_n (jv_dk t_X12_may (k := 35) rfl) rfl rfl ?_
    refine jv_iload_n (jv_dk t_X12_may (k := 36) rfl) rfl rfl ?_
    refine jv_iconst (v := 1) (jv_dk t_X12_may (k := 37) rfl) (by decide) ?_
    refine jv_callV (en' := jeI) (pv := jpI) (As := [.int (a1), .int (a2), .int (1)]) (S := []) (jv_dk t_X12_may (k := 38) rfl) (fun _ => rfl) lk_X12_254 me_X11_canEnter mv_X11_canEnter ⟨by decide, by decide⟩ rfl rfl rfl (Nat.le_of_ble_eq_true rfl) (P_X11_canEnter X v4 a1 a2 1 h2) (fun v19 h20 => ?_)
    show jv_O X M_X12_may _ jeIX 110 [some (.ref (a0)), some (.int (a1)), some (.int (a2)), some (.int (a3)), some (.ref (v4))] [.int (v19)] h20 _
    refine jv_callS (en' := jeI) (pv := jpI) (As := [.int (v19)]) (S := []) (jv_dk t_X12_may (k := 39) rfl) (fun _ => rfl) (Or.inl lk_X12_181) me_X12_bit ms_X12_bit ⟨by decide, by decide⟩ rfl rfl (Nat.le_of_ble_eq_true rfl) (P_X12_bit X v19 h20) (fun v21 h22 => ?_)
    show jv_O X M_X12_may _ jeIX 113 [some (.ref (a0)), some (.int (a1)), some (.int (a2)), some (.int (a3)), some (.ref (v4))] [.int (v21)] h22 _
    exact jv_iret (ty := .int) (jv_dk t_X12_may (k := 40) rfl) rfl rfl rfl
  rw [if_neg c8]
  by_cases c9 : a3 = 4
  · rw [if_pos c9]
    refine jv_tbl (tgt := 114) (jv_dk t_X12_may (k := 11) rfl) (by rw [c9] <;> decide) (by rw [c9] <;> decide) (by rw [c9] <;> rfl) rfl ?_
    refine jv_aload (jv_dk t_X12_may (k := 41) rfl) rfl (Or.inr ⟨_, rfl⟩) ?_
    refine jv_iload_n (jv_dk t_X12_may (k := 42) rfl) rfl rfl ?_
    refine jv_iload_n (jv_dk t_X12_may (k := 43) rfl) rfl rfl ?_
    refine jv_iconst (v := 0) (jv_dk t_X12_may (k := 44) rfl) (by decide) ?_
    refine jv_callV (en' := jeI) (pv := jpI) (As := [.int (a1), .int (a2), .int (0)]) (S := []) (jv_dk t_X12_may (k := 45) rfl) (fun _ => rfl) lk_X12_254 me_X11_canEnter mv_X11_canEnter ⟨by decide, by decide⟩ rfl rfl rfl (Nat.le_of_ble_eq_true rfl) (P_X11_canEnter X v4 a1 a2 0 h2) (fun v15 h16 => ?_)
    show jv_O X M_X12_may _ jeIX 122 [some (.ref (a0)), some (.int (a1)), some (.int (a2)), some (.int (a3)), some (.ref (v4))] [.int (v15)] h16 _
    refine jv_callS (en' := jeI) (pv := jpI) (As := [.int (v15)]) (S := []) (jv_dk t_X12_may (k := 46) rfl) (fun _ => rfl) (Or.inl lk_X12_181) me_X12_bit ms_X12_bit ⟨by decide, by decide⟩ rfl rfl (Nat.le_of_ble_eq_true rfl) (P_X12_bit X v15 h16) (fun v17 h18 => ?_)
    show jv_O X M_X12_may _ jeIX 125 [some (.ref (a0)), some (.int (a1)), some (.int (a2)), some (.int (a3)), some (.ref (v4))] [.int (v17)] h18 _
    exact jv_iret (ty := .int) (jv_dk t_X12_may (k := 47) rfl) rfl rfl rfl
  rw [if_neg c9]
  by_cases c10 : a3 = 5
  · rw [if_pos c10]
    refine jv_tbl (tgt := 126) (jv_dk t_X12_may (k := 11) rfl) (by rw [c10] <;> decide) (by rw [c10] <;> decide) (by rw [c10] <;> rfl) rfl ?_
    refine jv_aload (jv_dk t_X12_may (k := 48) rfl) rfl (Or.inr ⟨_, rfl⟩) ?_
    refine jv_iload_n (jv_dk t_X12_may (k := 49) rfl) rfl rfl ?_
    refine jv_iload_n (jv_dk t_X12_may (k := 50) rfl) rfl rfl ?_
    refine jv_iconst (v := 2) (jv_dk t_X12_may (k := 51) rfl) (by decide) ?_
    refine jv_callV (en' := jeI) (pv := jpI) (As := [.int (a1), .int (a2), .int (2)]) (S := []) (jv_dk t_X12_may (k := 52) rfl) (fun _ => rfl) lk_X12_254 me_X11_canEnter mv_X11_canEnter ⟨by decide, by decide⟩ rfl rfl rfl (Nat.le_of_ble_eq_true rfl) (P_X11_canEnter X v4 a1 a2 2 h2) (fun v11 h12 => ?_)
    show jv_O X M_X12_may _ jeIX 134 [some (.ref (a0)), some (.int (a1)), some (.int (a2)), some (.int (a3)), some (.ref (v4))] [.int (v11)] h12 _
    refine jv_callS (en' := jeI) (pv := jpI) (As := [.int (v11)]) (S := []) (jv_dk t_X12_may (k := 53) rfl) (fun _ => rfl) (Or.inl lk_X12_181) me_X12_bit ms_X12_bit ⟨by decide, by decide⟩ rfl rfl (Nat.le_of_ble_eq_true rfl) (P_X12_bit X v11 h12) (fun v13 h14 => ?_)
    show jv_O X M_X12_may _ jeIX 137 [some (.ref (a0)), some (.int (a1)), some (.int (a2)), some (.int (a3)), some (.ref (v4))] [.int (v13)] h14 _
    exact jv_iret (ty := .int) (jv_dk t_X12_may (k := 54) rfl) rfl rfl rfl
  rw [if_neg c10]
  have e_c5 := jv_ne (x := a3) (k := 0) (by decide) (by decide) c5
  have e_c6 := jv_ne (x := a3) (k := 1) (by decide) (by decide) c6
  have e_c7 := jv_ne (x := a3) (k := 2) (by decide) (by decide) c7
  have e_c8 := jv_ne (x := a3) (k := 3) (by decide) (by decide) c8
  have e_c9 := jv_ne (x := a3) (k := 4) (by decide) (by decide) c9
  have e_c10 := jv_ne (x := a3) (k := 5) (by decide) (by decide) c10
  refine jv_tblOut (tgt := 138) (jv_dk t_X12_may (k := 11) rfl) (by omega) rfl ?_
  exact jv_throw (jv_dk t_X12_may (k := 55) rfl) (jv_dk t_X12_may (k := 56) rfl) (jv_dk t_X12_may (k := 57) rfl) (jv_dk t_X12_may (k := 58) rfl) rfl rfl (by decide) tw_146_148 (Nat.le_of_ble_eq_true rfl) ⟨by decide, by decide⟩ rfl
def t0_X12_over : List (Nat × Instr × Nat) := [(0, .aload_n 0, 1), (1, .iload_n 1, 1), (2, .invokevirtual 149, 3), (5, .aload_n 0, 1), (6, .iconst 1, 1), (7, .iload_n 2, 1), (8, .invokevirtual 216, 3), (11, .aload_n 0, 1), (12, .getfield 10, 3), (15, .getfield 82, 3), (18, .iload_n 1, 1), (19, .iload_n 2, 1), (20, .invokevirtual 248, 3), (23, .invokestatic 181, 3), (26, .ireturn, 1)]
theorem t_X12_over : jv_dec cX12_over t0_X12_over = true := by decide +kernel
def M_X12_over : jm := (yX12_over, cX12_over, 3, (some .int), 7, 123, [])
def f_X12_over (a0 : Nat) (a1 : Int32) (a2 : Int32) (h : jh) : Option ((Int32 ⊕ String) × jh) :=
  cVX h a0 10 (f_X12_needProcess a0 a1 h) fun _ h1 =>
  cVX h1 a0 10 (f_X12_needSpace a0 1 a2 h1) fun _ h2 =>
  gR h2 a0 10 0 fun v3 =>
  gR h2 v3 6 0 fun v4 =>
  cV h2 v4 9 (f_X11_rules v4 a1 a2 h2) fun v5 h6 =>
  bd (f_X12_bit v5 h6) fun v7 h8 =>
  some (.inl v7, h8)
theorem P_X12_over (X : jx) (a0 : Nat) (a1 : Int32) (a2 : Int32) (h : jh) : jv_P X M_X12_over jeIX [.ref (a0), .int (a1), .int (a2)] h (f_X12_over a0 a1 a2 h) := by
  refine jv_P.of (by decide) rfl (by simp [Value.category]) (Nat.le_of_ble_eq_true rfl) ?_
  show jv_O X M_X12_over (h.1, h.2.1) jeIX 0 [some (.ref (a0)), some (.int (a1)), some (.int (a2))] [] h (f_X12_over a0 a1 a2 h)
  unfold f_X12_over
  refine jv_aload_n (jv_dk t_X12_over (k := 0) rfl) rfl rfl (Or.inr ⟨_, rfl⟩) ?_
  refine jv_iload_n (jv_dk t_X12_over (k := 1) rfl) rfl rfl ?_
  refine jv_callVX (en' := jeVX) (pv := jpV) (As := [.int (a1)]) (S := []) (jv_dk t_X12_over (k := 2) rfl) (fun _ => rfl) (fun _ => rfl) (fun _ => rfl) rfl lk_X12_149 me_X12_needProcess mv_X12_needProcess ⟨by decide, by decide⟩ rfl rfl rfl (Nat.le_of_ble_eq_true rfl) (P_X12_needProcess X a0 a1 h) (fun _ h1 => ?_)
  show jv_O X M_X12_over _ jeIX 5 [some (.ref (a0)), some (.int (a1)), some (.int (a2))] [] h1 _
  refine jv_aload_n (jv_dk t_X12_over (k := 3) rfl) rfl rfl (Or.inr ⟨_, rfl⟩) ?_
  refine jv_iconst (v := 1) (jv_dk t_X12_over (k := 4) rfl) (by decide) ?_
  refine jv_iload_n (jv_dk t_X12_over (k := 5) rfl) rfl rfl ?_
  refine jv_callVX (en' := jeVX) (pv := jpV) (As := [.int (1), .int (a2)]) (S := []) (jv_dk t_X12_over (k := 6) rfl) (fun _ => rfl) (fun _ => rfl) (fun _ => rfl) rfl lk_X12_216 me_X12_needSpace mv_X12_needSpace ⟨by decide, by decide⟩ rfl rfl rfl (Nat.le_of_ble_eq_true rfl) (P_X12_needSpace X a0 1 a2 h1) (fun _ h2 => ?_)
  show jv_O X M_X12_over _ jeIX 11 [some (.ref (a0)), some (.int (a1)), some (.int (a2))] [] h2 _
  refine jv_aload_n (jv_dk t_X12_over (k := 7) rfl) rfl rfl (Or.inr ⟨_, rfl⟩) ?_
  refine jv_gR (jv_dk t_X12_over (k := 8) rfl) fl_X12_10 (fun v3 => ?_)
  refine jv_gR (jv_dk t_X12_over (k := 9) rfl) fl_X12_82 (fun v4 => ?_)
  refine jv_iload_n (jv_dk t_X12_over (k := 10) rfl) rfl rfl ?_
  refine jv_iload_n (jv_dk t_X12_over (k := 11) rfl) rfl rfl ?_
  refine jv_callV (en' := jeI) (pv := jpI) (As := [.int (a1), .int (a2)]) (S := []) (jv_dk t_X12_over (k := 12) rfl) (fun _ => rfl) lk_X12_248 me_X11_rules mv_X11_rules ⟨by decide, by decide⟩ rfl rfl rfl (Nat.le_of_ble_eq_true rfl) (P_X11_rules X v4 a1 a2 h2) (fun v5 h6 => ?_)
  show jv_O X M_X12_over _ jeIX 23 [some (.ref (a0)), some (.int (a1)), some (.int (a2))] [.int (v5)] h6 _
  refine jv_callS (en' := jeI) (pv := jpI) (As := [.int (v5)]) (S := []) (jv_dk t_X12_over (k := 13) rfl) (fun _ => rfl) (Or.inl lk_X12_181) me_X12_bit ms_X12_bit ⟨by decide, by decide⟩ rfl rfl (Nat.le_of_ble_eq_true rfl) (P_X12_bit X v5 h6) (fun v7 h8 => ?_)
  show jv_O X M_X12_over _ jeIX 26 [some (.ref (a0)), some (.int (a1)), some (.int (a2))] [.int (v7)] h8 _
  exact jv_iret (ty := .int) (jv_dk t_X12_over (k := 14) rfl) rfl rfl rfl
def t0_X12_act : List (Nat × Instr × Nat) := [(0, .aload_n 0, 1), (1, .getfield 10, 3), (4, .invokevirtual 298, 3), (7, .aload_n 0, 1), (8, .getfield 10, 3), (11, .getfield 82, 3), (14, .aload_n 1, 1), (15, .iload_n 2, 1), (16, .iload_n 3, 1), (17, .iload 4, 2), (19, .iload 5, 2), (21, .iload 6, 2), (23, .invokevirtual 301, 3), (26, .istore 7, 2), (28, .iload 7, 2), (30, .iconst (-1), 1), (31, .if_icmp .ne 19, 3), (34, .aload_n 0, 1), (35, .getfield 10, 3), (38, .getfield 79, 3), (41, .iconst 1, 1), (42, .dup2, 1), (43, .iaload, 1), (44, .iconst 1, 1), (45, .iadd, 1), (46, .iastore, 1), (47, .goto 10, 3), (50, .aload_n 0, 1), (51, .getfield 10, 3), (54, .invokevirtual 304, 3), (57, .iload 7, 2), (59, .ireturn, 1)]
theorem t_X12_act : jv_dec cX12_act t0_X12_act = true := by decide +kernel
def M_X12_act : jm := (yX12_act, cX12_act, 8, (some .int), 6, 153, [])
theorem lk_X12_298 : jv_lk RX12 298 M_X8_readyToKeep := Or.inr ⟨"SpaceWarden", (jv_at 536 (by decide +kernel))⟩
set_option maxRecDepth 20000 in
theorem me_X8_readyToKeep : jv_me M_X8_readyToKeep 0 := ⟨(jv_in2 (List.mem_of_getElem? (i := 139) rfl)), (jv_at 162 (by decide +kernel)), ⟨by decide, by decide⟩, by decide +kernel⟩
theorem lk_X12_301 : jv_lk RX12 301 M_X11_attempt := Or.inr ⟨"SpaceWarden", (jv_at 583 (by decide +kernel))⟩
theorem lk_X12_304 : jv_lk RX12 304 M_X8_keep := Or.inr ⟨"SpaceWarden", (jv_at 816 (by decide +kernel))⟩
set_option maxRecDepth 20000 in
theorem me_X8_keep : jv_me M_X8_keep 0 := ⟨(jv_in3 (List.mem_of_getElem? (i := 179) rfl)), (jv_at 162 (by decide +kernel)), ⟨by decide, by decide⟩, by decide +kernel⟩
theorem mv_X8_keep : jv_mv M_X8_keep := ⟨(jv_at 818 (by decide +kernel)), (jv_at 59 (by decide +kernel))⟩
theorem mv_X8_readyToKeep : jv_mv M_X8_readyToKeep := ⟨(jv_at 538 (by decide +kernel)), (jv_at 2 (by decide +kernel))⟩
def f_X12_act (a0 : Nat) (a1 : Nat) (a2 : Int32) (a3 : Int32) (a4 : Int32) (a5 : Int32) (a6 : Int32) (h : jh) : Option (Int32 × jh) :=
  gR h a0 10 0 fun v1 =>
  cV h v1 6 (f_X8_readyToKeep v1 h) fun _ h2 =>
  gR h2 a0 10 0 fun v3 =>
  gR h2 v3 6 0 fun v4 =>
  cV h2 v4 9 (f_X11_attempt v4 a1 a2 a3 a4 a5 a6 h2) fun v5 h6 =>
  (if ¬ v5 = (-1) then
  gR h6 a0 10 0 fun v8 =>
  cV h6 v8 6 (f_X8_keep v8 h6) fun _ h9 =>
  some (v5, h9)
  else
  gR h6 a0 10 0 fun v10 =>
  gR h6 v10 6 3 fun v11 =>
  aI h6 v11 1 fun v12 =>
  sI h6 v11 1 (v12 + 1) fun h13 =>
  some (v5, h13))
theorem P_X12_act (X : jx) (a0 : Nat) (a1 : Nat) (a2 : Int32) (a3 : Int32) (a4 : Int32) (a5 : Int32) (a6 : Int32) (h : jh) : jv_P X M_X12_act jeI [.ref (a0), .ref (jv_ad X (a1)), .int (a2), .int (a3), .int (a4), .int (a5), .int (a6)] h (f_X12_act a0 a1 a2 a3 a4 a5 a6 h) := by
  refine jv_P.of (by decide) rfl (by simp [Value.category]) (Nat.le_of_ble_eq_true rfl) ?_
  show jv_O X M_X12_act (h.1, h.2.1) jeI 0 [some (.ref (a0)), some (.ref (jv_ad X (a1))), some (.int (a2)), some (.int (a3)), some (.int (a4)), some (.int (a5)), some (.int (a6)), none] [] h (f_X12_act a0 a1 a2 a3 a4 a5 a6 h)
  unfold f_X12_act
  refine jv_aload_n (jv_dk t_X12_act (k := 0) rfl) rfl rfl (Or.inr ⟨_, rfl⟩) ?_
  refine jv_gR (jv_dk t_X12_act (k := 1) rfl) fl_X12_10 (fun v1 => ?_)
  refine jv_callV (en' := jeV) (pv := jpV) (As := []) (S := []) (jv_dk t_X12_act (k := 2) rfl) (fun _ => rfl) lk_X12_298 me_X8_readyToKeep mv_X8_readyToKeep ⟨by decide, by decide⟩ rfl rfl rfl (Nat.le_of_ble_eq_true rfl) (P_X8_readyToKeep X v1 h) (fun _ h2 => ?_)
  show jv_O X M_X12_act _ jeI 7 [some (.ref (a0)), some (.ref (jv_ad X (a1))), some (.int (a2)), some (.int (a3)), some (.int (a4)), some (.int (a5)), some (.int (a6)), none] [] h2 _
  refine jv_aload_n (jv_dk t_X12_act (k := 3) rfl) rfl rfl (Or.inr ⟨_, rfl⟩) ?_
  refine jv_gR (jv_dk t_X12_act (k := 4) rfl) fl_X12_10 (fun v3 => ?_)
  refine jv_gR (jv_dk t_X12_act (k := 5) rfl) fl_X12_82 (fun v4 => ?_)
  refine jv_aload_n (jv_dk t_X12_act (k := 6) rfl) rfl rfl (Or.inr ⟨_, rfl⟩) ?_
  refine jv_iload_n (jv_dk t_X12_act (k := 7) rfl) rfl rfl ?_
  refine jv_iload_n (jv_dk t_X12_act (k := 8) rfl) rfl rfl ?_
  refine jv_iload (jv_dk t_X12_act (k := 9) rfl) rfl ?_
  refine jv_iload (jv_dk t_X12_act (k := 10) rfl) rfl ?_
  refine jv_iload (jv_dk t_X12_act (k := 11) rfl) rfl ?_
  refine jv_callV (en' := jeI) (pv := jpI) (As := [.ref (jv_ad X (a1)), .int (a2), .int (a3), .int (a4), .int (a5), .int (a6)]) (S := []) (jv_dk t_X12_act (k := 12) rfl) (fun _ => rfl) lk_X12_301 me_X11_attempt mv_X11_attempt ⟨by decide, by decide⟩ rfl rfl rfl (Nat.le_of_ble_eq_true rfl) (P_X11_attempt X v4 a1 a2 a3 a4 a5 a6 h2) (fun v5 h6 => ?_)
  show jv_O X M_X12_act _ jeI 26 [some (.ref (a0)), some (.ref (jv_ad X (a1))), some (.int (a2)), some (.int (a3)), some (.int (a4)), some (.int (a5)), some (.int (a6)), none] [.int (v5)] h6 _
  refine jv_istore (L' := [some (.ref (a0)), some (.ref (jv_ad X (a1))), some (.int (a2)), some (.int (a3)), some (.int (a4)), some (.int (a5)), some (.int (a6)), some (.int (v5))]) (jv_dk t_X12_act (k := 13) rfl) (Nat.le_of_ble_eq_true rfl) rfl ?_
  refine jv_iload (jv_dk t_X12_act (k := 14) rfl) rfl ?_
  refine jv_iconst (v := (-1)) (jv_dk t_X12_act (k := 15) rfl) (by decide) ?_
  refine jv_icmp_ne (tgt := 50) (jv_dk t_X12_act (k := 16) rfl) rfl (fun c7 => ?_) (fun c7 => ?_)
  · refine jv_aload_n (jv_dk t_X12_act (k := 27) rfl) rfl rfl (Or.inr ⟨_, rfl⟩) ?_
    refine jv_gR (jv_dk t_X12_act (k := 28) rfl) fl_X12_10 (fun v8 => ?_)
    refine jv_callV (en' := jeV) (pv := jpV) (As := []) (S := []) (jv_dk t_X12_act (k := 29) rfl) (fun _ => rfl) lk_X12_304 me_X8_keep mv_X8_keep ⟨by decide, by decide⟩ rfl rfl rfl (Nat.le_of_ble_eq_true rfl) (P_X8_keep X v8 h6) (fun _ h9 => ?_)
    show jv_O X M_X12_act _ jeI 57 [some (.ref (a0)), some (.ref (jv_ad X (a1))), some (.int (a2)), some (.int (a3)), some (.int (a4)), some (.int (a5)), some (.int (a6)), some (.int (v5))] [] h9 _
    refine jv_iload (jv_dk t_X12_act (k := 30) rfl) rfl ?_
    exact jv_iret (ty := .int) (jv_dk t_X12_act (k := 31) rfl) rfl rfl rfl
  · show jv_O _ _ _ _ 34 _ _ _ _
    refine jv_aload_n (jv_dk t_X12_act (k := 17) rfl) rfl rfl (Or.inr ⟨_, rfl⟩) ?_
    refine jv_gR (jv_dk t_X12_act (k := 18) rfl) fl_X12_10 (fun v10 => ?_)
    refine jv_gR (jv_dk t_X12_act (k := 19) rfl) fl_X12_79 (fun v11 => ?_)
    refine jv_iconst (v := 1) (jv_dk t_X12_act (k := 20) rfl) (by decide) ?_
    refine jv_dup2 (jv_dk t_X12_act (k := 21) rfl) rfl rfl ?_
    refine jv_iaload (jv_dk t_X12_act (k := 22) rfl) (fun v12 => ?_)
    refine jv_iconst (v := 1) (jv_dk t_X12_act (k := 23) rfl) (by decide) ?_
    refine jv_iadd (jv_dk t_X12_act (k := 24) rfl) ?_
    refine jv_iastore (jv_dk t_X12_act (k := 25) rfl) (fun h13 => ?_)
    refine jv_goto (tgt := 57) (jv_dk t_X12_act (k := 26) rfl) rfl ?_
    refine jv_iload (jv_dk t_X12_act (k := 30) rfl) rfl ?_
    exact jv_iret (ty := .int) (jv_dk t_X12_act (k := 31) rfl) rfl rfl rfl
def t0_X12_fork : List (Nat × Instr × Nat) := [(0, .aload_n 0, 1), (1, .getstatic 258, 3), (4, .iload_n 1, 1), (5, .iconst 0, 1), (6, .iconst 0, 1), (7, .iconst 0, 1), (8, .iconst 0, 1), (9, .invokevirtual 264, 3), (12, .ireturn, 1)]
theorem t_X12_fork : jv_dec cX12_fork t0_X12_fork = true := by decide +kernel
def M_X12_fork : jm := (yX12_fork, cX12_fork, 2, (some .int), 7, 180, [])
theorem sl_X12_258 : jv_fl RX12 258 "SpaceWarden$Act" "FORK" "LSpaceWarden$Act;" := Or.inl (jv_at 530 (by decide +kernel))
theorem lk_X12_264 : Cond.methodLink RX12 264 M_X12_act.1 ∈ lw_tbl := (jv_at 532 (by decide +kernel))
set_option maxRecDepth 20000 in
theorem me_X12_act : jv_me M_X12_act 6 := ⟨(jv_in2 (List.mem_of_getElem? (i := 135) rfl)), (jv_at 161 (by decide +kernel)), ⟨by decide, by decide⟩, by decide +kernel⟩
theorem mv_X12_act : jv_mv M_X12_act := ⟨(jv_at 534 (by decide +kernel)), (jv_at 1 (by decide +kernel))⟩
def f_X12_fork (a0 : Nat) (a1 : Int32) (h : jh) : Option (Int32 × jh) :=
  cV h a0 10 (f_X12_act a0 0 a1 0 0 0 0 h) fun v1 h2 =>
  some (v1, h2)
theorem P_X12_fork (X : jx) (a0 : Nat) (a1 : Int32) (h : jh) : jv_P X M_X12_fork jeI [.ref (a0), .int (a1)] h (f_X12_fork a0 a1 h) := by
  refine jv_P.of (by decide) rfl (by simp [Value.category]) (Nat.le_of_ble_eq_true rfl) ?_
  show jv_O X M_X12_fork (h.1, h.2.1) jeI 0 [some (.ref (a0)), some (.int (a1))] [] h (f_X12_fork a0 a1 h)
  unfold f_X12_fork
  refine jv_aload_n (jv_dk t_X12_fork (k := 0) rfl) rfl rfl (Or.inr ⟨_, rfl⟩) ?_
  refine jv_gs (jv_dk t_X12_fork (k := 1) rfl) sl_X12_258 (fun U hK => (hK.2.2.2.1 0 (by decide)).1) ?_
  refine jv_iload_n (jv_dk t_X12_fork (k := 2) rfl) rfl rfl ?_
  refine jv_iconst (v := 0) (jv_dk t_X12_fork (k := 3) rfl) (by decide) ?_
  refine jv_iconst (v := 0) (jv_dk t_X12_fork (k := 4) rfl) (by decide) ?_
  refine jv_iconst (v := 0) (jv_dk t_X12_fork (k := 5) rfl) (by decide) ?_
  refine jv_iconst (v := 0) (jv_dk t_X12_fork (k := 6) rfl) (by decide) ?_
  refine jv_callV (en' := jeI) (pv := jpI) (As := [.ref (jv_ad X (0)), .int (a1), .int (0), .int (0), .int (0), .int (0)]) (S := []) (jv_dk t_X12_fork (k := 7) rfl) (fun _ => rfl) (Or.inl lk_X12_264) me_X12_act mv_X12_act ⟨by decide, by decide⟩ rfl rfl rfl (Nat.le_of_ble_eq_true rfl) (P_X12_act X a0 0 a1 0 0 0 0 h) (fun v1 h2 => ?_)
  show jv_O X M_X12_fork _ jeI 12 [some (.ref (a0)), some (.int (a1))] [.int (v1)] h2 _
  exact jv_iret (ty := .int) (jv_dk t_X12_fork (k := 8) rfl) rfl rfl rfl
def t0_X12_create : List (Nat × Instr × Nat) := [(0, .iload_n 2, 1), (1, .tableswitch 66 0 2 #[27, 40, 53], 27), (28, .aload_n 0, 1), (29, .getstatic 268, 3), (32, .iload_n 1, 1), (33, .iconst 0, 1), (34, .iconst 0, 1), (35, .iconst 0, 1), (36, .iconst 0, 1), (37, .invokevirtual 264, 3), (40, .ireturn, 1), (41, .aload_n 0, 1), (42, .getstatic 271, 3), (45, .iload_n 1, 1), (46, .iconst 0, 1), (47, .iconst 0, 1), (48, .iconst 0, 1), (49, .iconst 0, 1), (50, .invokevirtual 264, 3), (53, .ireturn, 1), (54, .aload_n 0, 1), (55, .getstatic 274, 3), (58, .iload_n 1, 1), (59, .iconst 0, 1), (60, .iconst 0, 1), (61, .iconst 0, 1), (62, .iconst 0, 1), (63, .invokevirtual 264, 3), (66, .ireturn, 1), (67, .aload_n 0, 1), (68, .getfield 10, 3), (71, .getfield 79, 3), (74, .iconst 1, 1), (75, .dup2, 1), (76, .iaload, 1), (77, .iconst 1, 1), (78, .iadd, 1), (79, .iastore, 1), (80, .iconst (-1), 1), (81, .ireturn, 1)]
theorem t_X12_create : jv_dec cX12_create t0_X12_create = true := by decide +kernel
def M_X12_create : jm := (yX12_create, cX12_create, 3, (some .int), 7, 180, [])
theorem sl_X12_274 : jv_fl RX12 274 "SpaceWarden$Act" "MOUNTS" "LSpaceWarden$Act;" := Or.inl (jv_at 829 (by decide +kernel))
theorem sl_X12_271 : jv_fl RX12 271 "SpaceWarden$Act" "USER" "LSpaceWarden$Act;" := Or.inl (jv_at 827 (by decide +kernel))
theorem sl_X12_268 : jv_fl RX12 268 "SpaceWarden$Act" "NUMBERS" "LSpaceWarden$Act;" := Or.inl (jv_at 825 (by decide +kernel))
def f_X12_create (a0 : Nat) (a1 : Int32) (a2 : Int32) (h : jh) : Option (Int32 × jh) :=
  (if a2 = 0 then
  cV h a0 10 (f_X12_act a0 2 a1 0 0 0 0 h) fun v12 h13 =>
  some (v12, h13)
  else
  (if a2 = 1 then
  cV h a0 10 (f_X12_act a0 1 a1 0 0 0 0 h) fun v10 h11 =>
  some (v10, h11)
  else
  (if a2 = 2 then
  cV h a0 10 (f_X12_act a0 3 a1 0 0 0 0 h) fun v8 h9 =>
  some (v8, h9)
  else
  gR h a0 10 0 fun v4 =>
  gR h v4 6 3 fun v5 =>
  aI h v5 1 fun v6 =>
  sI h v5 1 (v6 + 1) fun h7 =>
  some ((-1), h7))))
theorem P_X12_create (X : jx) (a0 : Nat) (a1 : Int32) (a2 : Int32) (h : jh) : jv_P X M_X12_create jeI [.ref (a0), .int (a1), .int (a2)] h (f_X12_create a0 a1 a2 h) := by
  refine jv_P.of (by decide) rfl (by simp [Value.category]) (Nat.le_of_ble_eq_true rfl) ?_
  show jv_O X M_X12_create (h.1, h.2.1) jeI 0 [some (.ref (a0)), some (.int (a1)), some (.int (a2))] [] h (f_X12_create a0 a1 a2 h)
  unfold f_X12_create
  refine jv_iload_n (jv_dk t_X12_create (k := 0) rfl) rfl rfl ?_
  by_cases c1 : a2 = 0
  · rw [if_pos c1]
    refine jv_tbl (tgt := 28) (jv_dk t_X12_create (k := 1) rfl) (by rw [c1] <;> decide) (by rw [c1] <;> decide) (by rw [c1] <;> rfl) rfl ?_
    refine jv_aload_n (jv_dk t_X12_create (k := 2) rfl) rfl rfl (Or.inr ⟨_, rfl⟩) ?_
    refine jv_gs (jv_dk t_X12_create (k := 3) rfl) sl_X12_268 (fun U hK => (hK.2.2.2.1 2 (by decide)).1) ?_
    refine jv_iload_n (jv_dk t_X12_create (k := 4) rfl) rfl rfl ?_
    refine jv_iconst (v := 0) (jv_dk t_X12_create (k := 5) rfl) (by decide) ?_
    refine jv_iconst (v := 0) (jv_dk t_X12_create (k := 6) rfl) (by decide) ?_
    refine jv_iconst (v := 0) (jv_dk t_X12_create (k := 7) rfl) (by decide) ?_
    refine jv_iconst (v := 0) (jv_dk t_X12_create (k := 8) rfl) (by decide) ?_
    refine jv_callV (en' := jeI) (pv := jpI) (As := [.ref (jv_ad X (2)), .int (a1), .int (0), .int (0), .int (0), .int (0)]) (S := []) (jv_dk t_X12_create (k := 9) rfl) (fun _ => rfl) (Or.inl lk_X12_264) me_X12_act mv_X12_act ⟨by decide, by decide⟩ rfl rfl rfl (Nat.le_of_ble_eq_true rfl) (P_X12_act X a0 2 a1 0 0 0 0 h) (fun v12 h13 => ?_)
    show jv_O X M_X12_create _ jeI 40 [some (.ref (a0)), some (.int (a1)), some (.int (a2))] [.int (v12)] h13 _
    exact jv_iret (ty := .int) (jv_dk t_X12_create (k := 10) rfl) rfl rfl rfl
  rw [if_neg c1]
  by_cases c2 : a2 = 1
  · rw [if_pos c2]
    refine jv_tbl (tgt := 41) (jv_dk t_X12_create (k := 1) rfl) (by rw [c2] <;> decide) (by rw [c2] <;> decide) (by rw [c2] <;> rfl) rfl ?_
    refine jv_aload_n (jv_dk t_X12_create (k := 11) rfl) rfl rfl (Or.inr ⟨_, rfl⟩) ?_
    refine jv_gs (jv_dk t_X12_create (k := 12) rfl) sl_X12_271 (fun U hK => (hK.2.2.2.1 1 (by decide)).1) ?_
    refine jv_iload_n (jv_dk t_X12_create (k := 13) rfl) rfl rfl ?_
    refine jv_iconst (v := 0) (jv_dk t_X12_create (k := 14) rfl) (by decide) ?_
    refine jv_iconst (v := 0) (jv_dk t_X12_create (k := 15) rfl) (by decide) ?_
    refine jv_iconst (v := 0) (jv_dk t_X12_create (k := 16) rfl) (by decide) ?_
    refine jv_iconst (v := 0) (jv_dk t_X12_create (k := 17) rfl) (by decide) ?_
    refine jv_callV (en' := jeI) (pv := jpI) (As := [.ref (jv_ad X (1)), .int (a1), .int (0), .int (0), .int (0), .int (0)]) (S := []) (jv_dk t_X12_create (k := 18) rfl) (fun _ => rfl) (Or.inl lk_X12_264) me_X12_act mv_X12_act ⟨by decide, by decide⟩ rfl rfl rfl (Nat.le_of_ble_eq_true rfl) (P_X12_act X a0 1 a1 0 0 0 0 h) (fun v10 h11 => ?_)
    show jv_O X M_X12_create _ jeI 53 [some (.ref (a0)), some (.int (a1)), some (.int (a2))] [.int (v10)] h11 _
    exact jv_iret (ty := .int) (jv_dk t_X12_create (k := 19) rfl) rfl rfl rfl
  rw [if_neg c2]
  by_cases c3 : a2 = 2
  · rw [if_pos c3]
    refine jv_tbl (tgt := 54) (jv_dk t_X12_create (k := 1) rfl) (by rw [c3] <;> decide) (by rw [c3] <;> decide) (by rw [c3] <;> rfl) rfl ?_
    refine jv_aload_n (jv_dk t_X12_create (k := 20) rfl) rfl rfl (Or.inr ⟨_, rfl⟩) ?_
    refine jv_gs (jv_dk t_X12_create (k := 21) rfl) sl_X12_274 (fun U hK => (hK.2.2.2.1 3 (by decide)).1) ?_
    refine jv_iload_n (jv_dk t_X12_create (k := 22) rfl) rfl rfl ?_
    refine jv_iconst (v := 0) (jv_dk t_X12_create (k := 23) rfl) (by decide) ?_
    refine jv_iconst (v := 0) (jv_dk t_X12_create (k := 24) rfl) (by decide) ?_
    refine jv_iconst (v := 0) (jv_dk t_X12_create (k := 25) rfl) (by decide) ?_
    refine jv_iconst (v := 0) (jv_dk t_X12_create (k := 26) rfl) (by decide) ?_
    refine jv_callV (en' := jeI) (pv := jpI) (As := [.ref (jv_ad X (3)), .int (a1), .int (0), .int (0), .int (0), .int (0)]) (S := []) (jv_dk t_X12_create (k := 27) rfl) (fun _ => rfl) (Or.inl lk_X12_264) me_X12_act mv_X12_act ⟨by decide, by decide⟩ rfl rfl rfl (Nat.le_of_ble_eq_true rfl) (P_X12_act X a0 3 a1 0 0 0 0 h) (fun v8 h9 => ?_)
    show jv_O X M_X12_create _ jeI 66 [some (.ref (a0)), some (.int (a1)), some (.int (a2))] [.int (v8)] h9 _
    exact jv_iret (ty := .int) (jv_dk t_X12_create (k := 28) rfl) rfl rfl rfl
  rw [if_neg c3]
  have e_c1 := jv_ne (x := a2) (k := 0) (by decide) (by decide) c1
  have e_c2 := jv_ne (x := a2) (k := 1) (by decide) (by decide) c2
  have e_c3 := jv_ne (x := a2) (k := 2) (by decide) (by decide) c3
  refine jv_tblOut (tgt := 67) (jv_dk t_X12_create (k := 1) rfl) (by omega) rfl ?_
  refine jv_aload_n (jv_dk t_X12_create (k := 29) rfl) rfl rfl (Or.inr ⟨_, rfl⟩) ?_
  refine jv_gR (jv_dk t_X12_create (k := 30) rfl) fl_X12_10 (fun v4 => ?_)
  refine jv_gR (jv_dk t_X12_create (k := 31) rfl) fl_X12_79 (fun v5 => ?_)
  refine jv_iconst (v := 1) (jv_dk t_X12_create (k := 32) rfl) (by decide) ?_
  refine jv_dup2 (jv_dk t_X12_create (k := 33) rfl) rfl rfl ?_
  refine jv_iaload (jv_dk t_X12_create (k := 34) rfl) (fun v6 => ?_)
  refine jv_iconst (v := 1) (jv_dk t_X12_create (k := 35) rfl) (by decide) ?_
  refine jv_iadd (jv_dk t_X12_create (k := 36) rfl) ?_
  refine jv_iastore (jv_dk t_X12_create (k := 37) rfl) (fun h7 => ?_)
  refine jv_iconst (v := (-1)) (jv_dk t_X12_create (k := 38) rfl) (by decide) ?_
  exact jv_iret (ty := .int) (jv_dk t_X12_create (k := 39) rfl) rfl rfl rfl
