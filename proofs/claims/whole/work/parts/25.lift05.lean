def t0_X11_attempt : List (Nat × Instr × Nat) := [(0, .aload_n 0, 1), (1, .getfield 12, 3), (4, .iload_n 2, 1), (5, .invokevirtual 76, 3), (8, .ifCond .ne 5, 3), (11, .iconst (-1), 1), (12, .ireturn, 1), (13, .getstatic 80, 3), (16, .aload_n 1, 1), (17, .invokevirtual 85, 3), (20, .iaload, 1), (21, .tableswitch 152 1 11 #[59, 65, 71, 77, 83, 96, 103, 112, 121, 127, 146], 59), (80, .aload_n 0, 1), (81, .iload_n 2, 1), (82, .invokevirtual 91, 3), (85, .ireturn, 1), (86, .aload_n 0, 1), (87, .iload_n 2, 1), (88, .invokevirtual 94, 3), (91, .ireturn, 1), (92, .aload_n 0, 1), (93, .iload_n 2, 1), (94, .invokevirtual 97, 3), (97, .ireturn, 1), (98, .aload_n 0, 1), (99, .iload_n 2, 1), (100, .invokevirtual 100, 3), (103, .ireturn, 1), (104, .aload_n 0, 1), (105, .iload_n 2, 1), (106, .iload_n 3, 1), (107, .iload 4, 2), (109, .iload 5, 2), (111, .iload 6, 2), (113, .invokevirtual 103, 3), (116, .ireturn, 1), (117, .aload_n 0, 1), (118, .iload_n 2, 1), (119, .iload_n 3, 1), (120, .invokevirtual 107, 3), (123, .ireturn, 1), (124, .aload_n 0, 1), (125, .iload_n 2, 1), (126, .iload_n 3, 1), (127, .iload 4, 2), (129, .invokevirtual 111, 3), (132, .ireturn, 1), (133, .aload_n 0, 1), (134, .iload_n 2, 1), (135, .iload_n 3, 1), (136, .iload 4, 2), (138, .invokevirtual 115, 3), (141, .ireturn, 1), (142, .aload_n 0, 1), (143, .iload_n 2, 1), (144, .invokevirtual 118, 3), (147, .ireturn, 1), (148, .aload_n 0, 1), (149, .iload_n 2, 1), (150, .iload_n 3, 1), (151, .invokevirtual 121, 3), (154, .ifCond .eq 11, 3), (157, .aload_n 0, 1), (158, .iload_n 3, 1), (159, .invokevirtual 118, 3), (162, .goto 4, 3), (165, .iconst (-1), 1), (166, .ireturn, 1), (167, .aload_n 0, 1), (168, .iload_n 2, 1), (169, .invokevirtual 125, 3), (172, .ireturn, 1), (173, .iconst (-1), 1), (174, .ireturn, 1)]
theorem t_X11_attempt : jv_dec cX11_attempt t0_X11_attempt = true := by decide +kernel
def M_X11_attempt : jm := (yX11_attempt, cX11_attempt, 7, (some .int), 5, 127, [])
theorem sl_X11_80 : jv_fl RX11 80 "SpaceWarden$1" "$SwitchMap$SpaceWarden$Act" "[I" := Or.inl (jv_at 594 (by decide +kernel))
theorem lk_X11_125 : Cond.methodLink RX11 125 M_X11_turnSharing.1 ∈ lw_tbl := (jv_at 808 (by decide +kernel))
set_option maxRecDepth 20000 in
theorem me_X11_turnSharing : jv_me M_X11_turnSharing 1 := ⟨(jv_in3 (List.mem_of_getElem? (i := 171) rfl)), (jv_at 163 (by decide +kernel)), ⟨by decide, by decide⟩, by decide +kernel⟩
theorem mv_X11_turnSharing : jv_mv M_X11_turnSharing := ⟨(jv_at 810 (by decide +kernel)), (jv_at 58 (by decide +kernel))⟩
theorem lk_X11_121 : Cond.methodLink RX11 121 M_X11_canKill.1 ∈ lw_tbl := (jv_at 804 (by decide +kernel))
set_option maxRecDepth 20000 in
theorem me_X11_canKill : jv_me M_X11_canKill 2 := ⟨(jv_in3 (List.mem_of_getElem? (i := 167) rfl)), (jv_at 163 (by decide +kernel)), ⟨by decide, by decide⟩, by decide +kernel⟩
theorem lk_X11_118 : Cond.methodLink RX11 118 M_X11_finish.1 ∈ lw_tbl := (jv_at 776 (by decide +kernel))
set_option maxRecDepth 20000 in
theorem me_X11_finish : jv_me M_X11_finish 1 := ⟨(jv_in3 (List.mem_of_getElem? (i := 139) rfl)), (jv_at 163 (by decide +kernel)), ⟨by decide, by decide⟩, by decide +kernel⟩
theorem mv_X11_finish : jv_mv M_X11_finish := ⟨(jv_at 778 (by decide +kernel)), (jv_at 51 (by decide +kernel))⟩
theorem mv_X11_canKill : jv_mv M_X11_canKill := ⟨(jv_at 806 (by decide +kernel)), (jv_at 57 (by decide +kernel))⟩
theorem lk_X11_115 : Cond.methodLink RX11 115 M_X11_goInto.1 ∈ lw_tbl := (jv_at 763 (by decide +kernel))
set_option maxRecDepth 20000 in
theorem me_X11_goInto : jv_me M_X11_goInto 3 := ⟨(jv_in3 (List.mem_of_getElem? (i := 126) rfl)), (jv_at 163 (by decide +kernel)), ⟨by decide, by decide⟩, by decide +kernel⟩
theorem mv_X11_goInto : jv_mv M_X11_goInto := ⟨(jv_at 765 (by decide +kernel)), (jv_at 48 (by decide +kernel))⟩
theorem lk_X11_111 : Cond.methodLink RX11 111 M_X11_putThing.1 ∈ lw_tbl := (jv_at 745 (by decide +kernel))
set_option maxRecDepth 20000 in
theorem me_X11_putThing : jv_me M_X11_putThing 3 := ⟨(jv_in3 (List.mem_of_getElem? (i := 108) rfl)), (jv_at 163 (by decide +kernel)), ⟨by decide, by decide⟩, by decide +kernel⟩
theorem mv_X11_putThing : jv_mv M_X11_putThing := ⟨(jv_at 747 (by decide +kernel)), (jv_at 44 (by decide +kernel))⟩
theorem lk_X11_107 : Cond.methodLink RX11 107 M_X11_turnInto.1 ∈ lw_tbl := (jv_at 738 (by decide +kernel))
set_option maxRecDepth 20000 in
theorem me_X11_turnInto : jv_me M_X11_turnInto 2 := ⟨(jv_in3 (List.mem_of_getElem? (i := 101) rfl)), (jv_at 163 (by decide +kernel)), ⟨by decide, by decide⟩, by decide +kernel⟩
theorem mv_X11_turnInto : jv_mv M_X11_turnInto := ⟨(jv_at 740 (by decide +kernel)), (jv_at 43 (by decide +kernel))⟩
theorem lk_X11_103 : Cond.methodLink RX11 103 M_X11_addRange.1 ∈ lw_tbl := (jv_at 687 (by decide +kernel))
set_option maxRecDepth 20000 in
theorem me_X11_addRange : jv_me M_X11_addRange 5 := ⟨(jv_in3 (List.mem_of_getElem? (i := 50) rfl)), (jv_at 163 (by decide +kernel)), ⟨by decide, by decide⟩, by decide +kernel⟩
theorem mv_X11_addRange : jv_mv M_X11_addRange := ⟨(jv_at 689 (by decide +kernel)), (jv_at 32 (by decide +kernel))⟩
theorem lk_X11_100 : Cond.methodLink RX11 100 M_X11_makeMountSpace.1 ∈ lw_tbl := (jv_at 679 (by decide +kernel))
set_option maxRecDepth 20000 in
theorem me_X11_makeMountSpace : jv_me M_X11_makeMountSpace 1 := ⟨(jv_in3 (List.mem_of_getElem? (i := 42) rfl)), (jv_at 163 (by decide +kernel)), ⟨by decide, by decide⟩, by decide +kernel⟩
theorem mv_X11_makeMountSpace : jv_mv M_X11_makeMountSpace := ⟨(jv_at 681 (by decide +kernel)), (jv_at 30 (by decide +kernel))⟩
theorem lk_X11_97 : Cond.methodLink RX11 97 M_X11_makeNumberSpace.1 ∈ lw_tbl := (jv_at 674 (by decide +kernel))
set_option maxRecDepth 20000 in
theorem me_X11_makeNumberSpace : jv_me M_X11_makeNumberSpace 1 := ⟨(jv_in3 (List.mem_of_getElem? (i := 37) rfl)), (jv_at 163 (by decide +kernel)), ⟨by decide, by decide⟩, by decide +kernel⟩
theorem mv_X11_makeNumberSpace : jv_mv M_X11_makeNumberSpace := ⟨(jv_at 676 (by decide +kernel)), (jv_at 29 (by decide +kernel))⟩
theorem lk_X11_94 : Cond.methodLink RX11 94 M_X11_makeUserSpace.1 ∈ lw_tbl := (jv_at 655 (by decide +kernel))
set_option maxRecDepth 20000 in
theorem me_X11_makeUserSpace : jv_me M_X11_makeUserSpace 1 := ⟨(jv_in3 (List.mem_of_getElem? (i := 18) rfl)), (jv_at 163 (by decide +kernel)), ⟨by decide, by decide⟩, by decide +kernel⟩
theorem mv_X11_makeUserSpace : jv_mv M_X11_makeUserSpace := ⟨(jv_at 657 (by decide +kernel)), (jv_at 25 (by decide +kernel))⟩
theorem lk_X11_91 : Cond.methodLink RX11 91 M_X11_bear.1 ∈ lw_tbl := (jv_at 602 (by decide +kernel))
set_option maxRecDepth 20000 in
theorem me_X11_bear : jv_me M_X11_bear 1 := ⟨(jv_in2 (List.mem_of_getElem? (i := 205) rfl)), (jv_at 163 (by decide +kernel)), ⟨by decide, by decide⟩, by decide +kernel⟩
theorem mv_X11_bear : jv_mv M_X11_bear := ⟨(jv_at 604 (by decide +kernel)), (jv_at 12 (by decide +kernel))⟩
def f_X11_attempt (a0 : Nat) (a1 : Nat) (a2 : Int32) (a3 : Int32) (a4 : Int32) (a5 : Int32) (a6 : Int32) (h : jh) : Option (Int32 × jh) :=
  gR h a0 9 0 fun v1 =>
  cV h v1 3 (f_X5_has v1 a2 h) fun v2 h3 =>
  (if ¬ v2 = 0 then
  eO a1 fun v5 =>
  mI v5 fun v6 =>
  (if v6 = 1 then
  cV h3 a0 9 (f_X11_bear a0 a2 h3) fun v41 h42 =>
  some (v41, h42)
  else
  (if v6 = 2 then
  cV h3 a0 9 (f_X11_makeUserSpace a0 a2 h3) fun v39 h40 =>
  some (v39, h40)
  else
  (if v6 = 3 then
  cV h3 a0 9 (f_X11_makeNumberSpace a0 a2 h3) fun v37 h38 =>
  some (v37, h38)
  else
  (if v6 = 4 then
  cV h3 a0 9 (f_X11_makeMountSpace a0 a2 h3) fun v35 h36 =>
  some (v35, h36)
  else
  (if v6 = 5 then
  cV h3 a0 9 (f_X11_addRange a0 a2 a3 a4 a5 a6 h3) fun v33 h34 =>
  some (v33, h34)
  else
  (if v6 = 6 then
  cV h3 a0 9 (f_X11_turnInto a0 a2 a3 h3) fun v31 h32 =>
  some (v31, h32)
  else
  (if v6 = 7 then
  cV h3 a0 9 (f_X11_putThing a0 a2 a3 a4 h3) fun v29 h30 =>
  some (v29, h30)
  else
  (if v6 = 8 then
  cV h3 a0 9 (f_X11_goInto a0 a2 a3 a4 h3) fun v27 h28 =>
  some (v27, h28)
  else
  (if v6 = 9 then
  cV h3 a0 9 (f_X11_finish a0 a2 h3) fun v25 h26 =>
  some (v25, h26)
  else
  (if v6 = 10 then
  cV h3 a0 9 (f_X11_canKill a0 a2 a3 h3) fun v20 h21 =>
  (if v20 = 0 then
  some ((-1), h21)
  else
  cV h21 a0 9 (f_X11_finish a0 a3 h21) fun v23 h24 =>
  some (v23, h24))
  else
  (if v6 = 11 then
  cV h3 a0 9 (f_X11_turnSharing a0 a2 h3) fun v18 h19 =>
  some (v18, h19)
  else
  some ((-1), h3))))))))))))
  else
  some ((-1), h3))
theorem P_X11_attempt (X : jx) (a0 : Nat) (a1 : Nat) (a2 : Int32) (a3 : Int32) (a4 : Int32) (a5 : Int32) (a6 : Int32) (h : jh) : jv_P X M_X11_attempt jeI [.ref (a0), .ref (jv_ad X (a1)), .int (a2), .int (a3), .int (a4), .int (a5), .int (a6)] h (f_X11_attempt a0 a1 a2 a3 a4 a5 a6 h) := by
  refine jv_P.of (by decide) rfl (by simp [Value.category]) (Nat.le_of_ble_eq_true rfl) ?_
  show jv_O X M_X11_attempt (h.1, h.2.1) jeI 0 [some (.ref (a0)), some (.ref (jv_ad X (a1))), some (.int (a2)), some (.int (a3)), some (.int (a4)), some (.int (a5)), some (.int (a6))] [] h (f_X11_attempt a0 a1 a2 a3 a4 a5 a6 h)
  unfold f_X11_attempt
  refine jv_aload_n (jv_dk t_X11_attempt (k := 0) rfl) rfl rfl (Or.inr ⟨_, rfl⟩) ?_
  refine jv_gR (jv_dk t_X11_attempt (k := 1) rfl) fl_X11_12 (fun v1 => ?_)
  refine jv_iload_n (jv_dk t_X11_attempt (k := 2) rfl) rfl rfl ?_
  refine jv_callV (en' := jeI) (pv := jpI) (As := [.int (a2)]) (S := []) (jv_dk t_X11_attempt (k := 3) rfl) (fun _ => rfl) lk_X11_76 me_X5_has mv_X5_has ⟨by decide, by decide⟩ rfl rfl rfl (Nat.le_of_ble_eq_true rfl) (P_X5_has X v1 a2 h) (fun v2 h3 => ?_)
  show jv_O X M_X11_attempt _ jeI 8 [some (.ref (a0)), some (.ref (jv_ad X (a1))), some (.int (a2)), some (.int (a3)), some (.int (a4)), some (.int (a5)), some (.int (a6))] [.int (v2)] h3 _
  refine jv_if_ne (tgt := 13) (jv_dk t_X11_attempt (k := 4) rfl) rfl (fun c4 => ?_) (fun c4 => ?_)
  · refine jv_gs (jv_dk t_X11_attempt (k := 7) rfl) sl_X11_80 (fun U hK => hK.2.2.2.2.2.1.1) ?_
    refine jv_aload_n (jv_dk t_X11_attempt (k := 8) rfl) rfl rfl (Or.inr ⟨_, rfl⟩) ?_
    refine jv_eO (jv_dk t_X11_attempt (k := 9) rfl) rfl ⟨by decide, by decide⟩ (Nat.le_of_ble_eq_true rfl) (fun v5 => ?_)
    refine jv_mI (jv_dk t_X11_attempt (k := 10) rfl) (fun v6 => ?_)
    by_cases c7 : v6 = 1
    · rw [if_pos c7]
      refine jv_tbl (tgt := 80) (jv_dk t_X11_attempt (k := 11) rfl) (by rw [c7] <;> decide) (by rw [c7] <;> decide) (by rw [c7] <;> rfl) rfl ?_
      refine jv_aload_n (jv_dk t_X11_attempt (k := 12) rfl) rfl rfl (Or.inr ⟨_, rfl⟩) ?_
      refine jv_iload_n (jv_dk t_X11_attempt (k := 13) rfl) rfl rfl ?_
      refine jv_callV (en' := jeI) (pv := jpI) (As := [.int (a2)]) (S := []) (jv_dk t_X11_attempt (k := 14) rfl) (fun _ => rfl) (Or.inl lk_X11_91) me_X11_bear mv_X11_bear ⟨by decide, by decide⟩ rfl rfl rfl (Nat.le_of_ble_eq_true rfl) (P_X11_bear X a0 a2 h3) (fun v41 h42 => ?_)
      show jv_O X M_X11_attempt _ jeI 85 [some (.ref (a0)), some (.ref (jv_ad X (a1))), some (.int (a2)), some (.int (a3)), some (.int (a4)), some (.int (a5)), some (.int (a6))] [.int (v41)] h42 _
      exact jv_iret (ty := .int) (jv_dk t_X11_attempt (k := 15) rfl) rfl rfl rfl
    rw [if_neg c7]
    by_cases c8 : v6 = 2
    · rw [if_pos c8]
      refine jv_tbl (tgt := 86) (jv_dk t_X11_attempt (k := 11) rfl) (by rw [c8] <;> decide) (by rw [c8] <;> decide) (by rw [c8] <;> rfl) rfl ?_
      refine jv_aload_n (jv_dk t_X11_attempt (k := 16) rfl) rfl rfl (Or.inr ⟨_, rfl⟩) ?_
      refine jv_iload_n (jv_dk t_X11_attempt (k := 17) rfl) rfl rfl ?_
      refine jv_callV (en' := jeI) (pv := jpI) (As := [.int (a2)]) (S := []) (jv_dk t_X11_attempt (k := 18) rfl) (fun _ => rfl) (Or.inl lk_X11_94) me_X11_makeUserSpace mv_X11_makeUserSpace ⟨by decide, by decide⟩ rfl rfl rfl (Nat.le_of_ble_eq_true rfl) (P_X11_makeUserSpace X a0 a2 h3) (fun v39 h40 => ?_)
      show jv_O X M_X11_attempt _ jeI 91 [some (.ref (a0)), some (.ref (jv_ad X (a1))), some (.int (a2)), some (.int (a3)), some (.int (a4)), some (.int (a5)), some (.int (a6))] [.int (v39)] h40 _
      exact jv_iret (ty := .int) (jv_dk t_X11_attempt (k := 19) rfl) rfl rfl rfl
    rw [if_neg c8]
    by_cases c9 : v6 = 3
    · rw [if_pos c9]
      refine jv_tbl (tgt := 92) (jv_dk t_X11_attempt (k := 11) rfl) (by rw [c9] <;> decide) (by rw [c9] <;> decide) (by rw [c9] <;> rfl) rfl ?_
      refine jv_aload_n (jv_dk t_X11_attempt (k := 20) rfl) rfl rfl (Or.inr ⟨_, rfl⟩) ?_
      refine jv_iload_n (jv_dk t_X11_attempt (k := 21) rfl) rfl rfl ?_
      refine jv_callV (en' := jeI) (pv := jpI) (As := [.int (a2)]) (S := []) (jv_dk t_X11_attempt (k := 22) rfl) (fun _ => rfl) (Or.inl lk_X11_97) me_X11_makeNumberSpace mv_X11_makeNumberSpace ⟨by decide, by decide⟩ rfl rfl rfl (Nat.le_of_ble_eq_true rfl) (P_X11_makeNumberSpace X a0 a2 h3) (fun v37 h38 => ?_)
      show jv_O X M_X11_attempt _ jeI 97 [some (.ref (a0)), some (.ref (jv_ad X (a1))), some (.int (a2)), some (.int (a3)), some (.int (a4)), some (.int (a5)), some (.int (a6))] [.int (v37)] h38 _
      exact jv_iret (ty := .int) (jv_dk t_X11_attempt (k := 23) rfl) rfl rfl rfl
    rw [if_neg c9]
    by_cases c10 : v6 = 4
    · rw [if_pos c10]
      refine jv_tbl (tgt := 98) (jv_dk t_X11_attempt (k := 11) rfl) (by rw [c10] <;> decide) (by rw [c10] <;> decide) (by rw [c10] <;> rfl) rfl ?_
      refine jv_aload_n (jv_dk t_X11_attempt (k := 24) rfl) rfl rfl (Or.inr ⟨_, rfl⟩) ?_
      refine jv_iload_n (jv_dk t_X11_attempt (k := 25) rfl) rfl rfl ?_
      refine jv_callV (en' := jeI) (pv := jpI) (As := [.int (a2)]) (S := []) (jv_dk t_X11_attempt (k := 26) rfl) (fun _ => rfl) (Or.inl lk_X11_100) me_X11_makeMountSpace mv_X11_makeMountSpace ⟨by decide, by decide⟩ rfl rfl rfl (Nat.le_of_ble_eq_true rfl) (P_X11_makeMountSpace X a0 a2 h3) (fun v35 h36 => ?_)
      show jv_O X M_X11_attempt _ jeI 103 [some (.ref (a0)), some (.ref (jv_ad X (a1))), some (.int (a2)), some (.int (a3)), some (.int (a4)), some (.int (a5)), some (.int (a6))] [.int (v35)] h36 _
      exact jv_iret (ty := .int) (jv_dk t_X11_attempt (k := 27) rfl) rfl rfl rfl
    rw [if_neg c10]
    by_cases c11 : v6 = 5
    · rw [if_pos c11]
      refine jv_tbl (tgt := 104) (jv_dk t_X11_attempt (k := 11) rfl) (by rw [c11] <;> decide) (by rw [c11] <;> decide) (by rw [c11] <;> rfl) rfl ?_
      refine jv_aload_n (jv_dk t_X11_attempt (k := 28) rfl) rfl rfl (Or.inr ⟨_, rfl⟩) ?_
      refine jv_iload_n (jv_dk t_X11_attempt (k := 29) rfl) rfl rfl ?_
      refine jv_iload_n (jv_dk t_X11_attempt (k := 30) rfl) rfl rfl ?_
      refine jv_iload (jv_dk t_X11_attempt (k := 31) rfl) rfl ?_
      refine jv_iload (jv_dk t_X11_attempt (k := 32) rfl) rfl ?_
      refine jv_iload (jv_dk t_X11_attempt (k := 33) rfl) rfl ?_
      refine jv_callV (en' := jeI) (pv := jpI) (As := [.int (a2), .int (a3), .int (a4), .int (a5), .int (a6)]) (S := []) (jv_dk t_X11_attempt (k := 34) rfl) (fun _ => rfl) (Or.inl lk_X11_103) me_X11_addRange mv_X11_addRange ⟨by decide, by decide⟩ rfl rfl rfl (Nat.le_of_ble_eq_true rfl) (P_X11_addRange X a0 a2 a3 a4 a5 a6 h3) (fun v33 h34 => ?_)
      show jv_O X M_X11_attempt _ jeI 116 [some (.ref (a0)), some (.ref (jv_ad X (a1))), some (.int (a2)), some (.int (a3)), some (.int (a4)), some (.int (a5)), some (.int (a6))] [.int (v33)] h34 _
      exact jv_iret (ty := .int) (jv_dk t_X11_attempt (k := 35) rfl) rfl rfl rfl
    rw [if_neg c11]
    by_cases c12 : v6 = 6
    · rw [if_pos c12]
      refine jv_tbl (tgt := 117) (jv_dk t_X11_attempt (k := 11) rfl) (by rw [c12] <;> decide) (by rw [c12] <;> decide) (by rw [c12] <;> rfl) rfl ?_
      refine jv_aload_n (jv_dk t_X11_attempt (k := 36) rfl) rfl rfl (Or.inr ⟨_, rfl⟩) ?_
      refine jv_iload_n (jv_dk t_X11_attempt (k := 37) rfl) rfl rfl ?_
      refine jv_iload_n (jv_dk t_X11_attempt (k := 38) rfl) rfl rfl ?_
      refine jv_callV (en' := jeI) (pv := jpI) (As := [.int (a2), .int (a3)]) (S := []) (jv_dk t_X11_attempt (k := 39) rfl) (fun _ => rfl) (Or.inl lk_X11_107) me_X11_turnInto mv_X11_turnInto ⟨by decide, by decide⟩ rfl rfl rfl (Nat.le_of_ble_eq_true rfl) (P_X11_turnInto X a0 a2 a3 h3) (fun v31 h32 => ?_)
      show jv_O X M_X11_attempt _ jeI 123 [some (.ref (a0)), some (.ref (jv_ad X (a1))), some (.int (a2)), some (.int (a3)), some (.int (a4)), some (.int (a5)), some (.int (a6))] [.int (v31)] h32 _
      exact jv_iret (ty := .int) (jv_dk t_X11_attempt (k := 40) rfl) rfl rfl rfl
    rw [if_neg c12]
    by_cases c13 : v6 = 7
    · rw [if_pos c13]
      refine jv_tbl (tgt := 124) (jv_dk t_X11_attempt (k := 11) rfl) (by rw [c13] <;> decide) (by rw [c13] <;> decide) (by rw [c13] <;> rfl) rfl ?_
      refine jv_aload_n (jv_dk t_X11_attempt (k := 41) rfl) rfl rfl (Or.inr ⟨_, rfl⟩) ?_
      refine jv_iload_n (jv_dk t_X11_attempt (k := 42) rfl) rfl rfl ?_
      refine jv_iload_n (jv_dk t_X11_attempt (k := 43) rfl) rfl rfl ?_
      refine jv_iload (jv_dk t_X11_attempt (k := 44) rfl) rfl ?_
      refine jv_callV (en' := jeI) (pv := jpI) (As := [.int (a2), .int (a3), .int (a4)]) (S := []) (jv_dk t_X11_attempt (k := 45) rfl) (fun _ => rfl) (Or.inl lk_X11_111) me_X11_putThing mv_X11_putThing ⟨by decide, by decide⟩ rfl rfl rfl (Nat.le_of_ble_eq_true rfl) (P_X11_putThing X a0 a2 a3 a4 h3) (fun v29 h30 => ?_)
      show jv_O X M_X11_attempt _ jeI 132 [some (.ref (a0)), some (.ref (jv_ad X (a1))), some (.int (a2)), some (.int (a3)), some (.int (a4)), some (.int (a5)), some (.int (a6))] [.int (v29)] h30 _
      exact jv_iret (ty := .int) (jv_dk t_X11_attempt (k := 46) rfl) rfl rfl rfl
    rw [if_neg c13]
    by_cases c14 : v6 = 8
    · rw [if_pos c14]
      refine jv_tbl (tgt := 133) (jv_dk t_X11_attempt (k := 11) rfl) (by rw [c14] <;> decide) (by rw [c14] <;> decide) (by rw [c14] <;> rfl) rfl ?_
      refine jv_aload_n (jv_dk t_X11_attempt (k := 47) rfl) rfl rfl (Or.inr ⟨_, rfl⟩) ?_
      refine jv_iload_n (jv_dk t_X11_attempt (k := 48) rfl) rfl rfl ?_
      refine jv_iload_n (jv_dk t_X11_attempt (k := 49) rfl) rfl rfl ?_
      refine jv_iload (jv_dk t_X11_attempt (k := 50) rfl) rfl ?_
      refine jv_callV (en' := jeI) (pv := jpI) (As := [.int (a2), .int (a3), .int (a4)]) (S := []) (jv_dk t_X11_attempt (k := 51) rfl) (fun _ => rfl) (Or.inl lk_X11_115) me_X11_goInto mv_X11_goInto ⟨by decide, by decide⟩ rfl rfl rfl (Nat.le_of_ble_eq_true rfl) (P_X11_goInto X a0 a2 a3 a4 h3) (fun v27 h28 => ?_)
      show jv_O X M_X11_attempt _ jeI 141 [some (.ref (a0)), some (.ref (jv_ad X (a1))), some (.int (a2)), some (.int (a3)), some (.int (a4)), some (.int (a5)), some (.int (a6))] [.int (v27)] h28 _
      exact jv_iret (ty := .int) (jv_dk t_X11_attempt (k := 52) rfl) rfl rfl rfl
    rw [if_neg c14]
    by_cases c15 : v6 = 9
    · rw [if_pos c15]
      refine jv_tbl (tgt := 142) (jv_dk t_X11_attempt (k := 11) rfl) (by rw [c15] <;> decide) (by rw [c15] <;> decide) (by rw [c15] <;> rfl) rfl ?_
      refine jv_aload_n (jv_dk t_X11_attempt (k := 53) rfl) rfl rfl (Or.inr ⟨_, rfl⟩) ?_
      refine jv_iload_n (jv_dk t_X11_attempt (k := 54) rfl) rfl rfl ?_
      refine jv_callV (en' := jeI) (pv := jpI) (As := [.int (a2)]) (S := []) (jv_dk t_X11_attempt (k := 55) rfl) (fun _ => rfl) (Or.inl lk_X11_118) me_X11_finish mv_X11_finish ⟨by decide, by decide⟩ rfl rfl rfl (Nat.le_of_ble_eq_true rfl) (P_X11_finish X a0 a2 h3) (fun v25 h26 => ?_)
      show jv_O X M_X11_attempt _ jeI 147 [some (.ref (a0)), some (.ref (jv_ad X (a1))), some (.int (a2)), some (.int (a3)), some (.int (a4)), some (.int (a5)), some (.int (a6))] [.int (v25)] h26 _
      exact jv_iret (ty := .int) (jv_dk t_X11_attempt (k := 56) rfl) rfl rfl rfl
    rw [if_neg c15]
    by_cases c16 : v6 = 10
    · rw [if_pos c16]
      refine jv_tbl (tgt := 148) (jv_dk t_X11_attempt (k := 11) rfl) (by rw [c16] <;> decide) (by rw [c16] <;> decide) (by rw [c16] <;> rfl) rfl ?_
      refine jv_aload_n (jv_dk t_X11_attempt (k := 57) rfl) rfl rfl (Or.inr ⟨_, rfl⟩) ?_
      refine jv_iload_n (jv_dk t_X11_attempt (k := 58) rfl) rfl rfl ?_
      refine jv_iload_n (jv_dk t_X11_attempt (k := 59) rfl) rfl rfl ?_
      refine jv_callV (en' := jeI) (pv := jpI) (As := [.int (a2), .int (a3)]) (S := []) (jv_dk t_X11_attempt (k := 60) rfl) (fun _ => rfl) (Or.inl lk_X11_121) me_X11_canKill mv_X11_canKill ⟨by decide, by decide⟩ rfl rfl rfl (Nat.le_of_ble_eq_true rfl) (P_X11_canKill X a0 a2 a3 h3) (fun v20 h21 => ?_)
      show jv_O X M_X11_attempt _ jeI 154 [some (.ref (a0)), some (.ref (jv_ad X (a1))), some (.int (a2)), some (.int (a3)), some (.int (a4)), some (.int (a5)), some (.int (a6))] [.int (v20)] h21 _
      refine jv_if_eq (tgt := 165) (jv_dk t_X11_attempt (k := 61) rfl) rfl (fun c22 => ?_) (fun c22 => ?_)
      · refine jv_iconst (v := (-1)) (jv_dk t_X11_attempt (k := 66) rfl) (by decide) ?_
        exact jv_iret (ty := .int) (jv_dk t_X11_attempt (k := 67) rfl) rfl rfl rfl
      · show jv_O _ _ _ _ 157 _ _ _ _
        refine jv_aload_n (jv_dk t_X11_attempt (k := 62) rfl) rfl rfl (Or.inr ⟨_, rfl⟩) ?_
        refine jv_iload_n (jv_dk t_X11_attempt (k := 63) rfl) rfl rfl ?_
        refine jv_callV (en' := jeI) (pv := jpI) (As := [.int (a3)]) (S := []) (jv_dk t_X11_attempt (k := 64) rfl) (fun _ => rfl) (Or.inl lk_X11_118) me_X11_finish mv_X11_finish ⟨by decide, by decide⟩ rfl rfl rfl (Nat.le_of_ble_eq_true rfl) (P_X11_finish X a0 a3 h21) (fun v23 h24 => ?_)
        show jv_O X M_X11_attempt _ jeI 162 [some (.ref (a0)), some (.ref (jv_ad X (a1))), some (.int (a2)), some (.int (a3)), some (.int (a4)), some (.int (a5)), some (.int (a6))] [.int (v23)] h24 _
        refine jv_goto (tgt := 166) (jv_dk t_X11_attempt (k := 65) rfl) rfl ?_
        exact jv_iret (ty := .int) (jv_dk t_X11_attempt (k := 67) rfl) rfl rfl rfl
    rw [if_neg c16]
    by_cases c17 : v6 = 11
    · rw [if_pos c17]
      refine jv_tbl (tgt := 167) (jv_dk t_X11_attempt (k := 11) rfl) (by rw [c17] <;> decide) (by rw [c17] <;> decide) (by rw [c17] <;> rfl) rfl ?_
      refine jv_aload_n (jv_dk t_X11_attempt (k := 68) rfl) rfl rfl (Or.inr ⟨_, rfl⟩) ?_
      refine jv_iload_n (jv_dk t_X11_attempt (k := 69) rfl) rfl rfl ?_
      refine jv_callV (en' := jeI) (pv := jpI) (As := [.int (a2)]) (S := []) (jv_dk t_X11_attempt (k := 70) rfl) (fun _ => rfl) (Or.inl lk_X11_125) me_X11_turnSharing mv_X11_turnSharing ⟨by decide, by decide⟩ rfl rfl rfl (Nat.le_of_ble_eq_true rfl) (P_X11_turnSharing X a0 a2 h3) (fun v18 h19 => ?_)
      show jv_O X M_X11_attempt _ jeI 172 [some (.ref (a0)), some (.ref (jv_ad X (a1))), some (.int (a2)), some (.int (a3)), some (.int (a4)), some (.int (a5)), some (.int (a6))] [.int (v18)] h19 _
      exact jv_iret (ty := .int) (jv_dk t_X11_attempt (k := 71) rfl) rfl rfl rfl
    rw [if_neg c17]
    have e_c7 := jv_ne (x := v6) (k := 1) (by decide) (by decide) c7
    have e_c8 := jv_ne (x := v6) (k := 2) (by decide) (by decide) c8
    have e_c9 := jv_ne (x := v6) (k := 3) (by decide) (by decide) c9
    have e_c10 := jv_ne (x := v6) (k := 4) (by decide) (by decide) c10
    have e_c11 := jv_ne (x := v6) (k := 5) (by decide) (by decide) c11
    have e_c12 := jv_ne (x := v6) (k := 6) (by decide) (by decide) c12
    have e_c13 := jv_ne (x := v6) (k := 7) (by decide) (by decide) c13
    have e_c14 := jv_ne (x := v6) (k := 8) (by decide) (by decide) c14
    have e_c15 := jv_ne (x := v6) (k := 9) (by decide) (by decide) c15
    have e_c16 := jv_ne (x := v6) (k := 10) (by decide) (by decide) c16
    have e_c17 := jv_ne (x := v6) (k := 11) (by decide) (by decide) c17
    refine jv_tblOut (tgt := 173) (jv_dk t_X11_attempt (k := 11) rfl) (by omega) rfl ?_
    refine jv_iconst (v := (-1)) (jv_dk t_X11_attempt (k := 72) rfl) (by decide) ?_
    exact jv_iret (ty := .int) (jv_dk t_X11_attempt (k := 73) rfl) rfl rfl rfl
  · show jv_O _ _ _ _ 11 _ _ _ _
    refine jv_iconst (v := (-1)) (jv_dk t_X11_attempt (k := 5) rfl) (by decide) ?_
    exact jv_iret (ty := .int) (jv_dk t_X11_attempt (k := 6) rfl) rfl rfl rfl
def t0_X6_read : List (Nat × Instr × Nat) := [(0, .aload_n 0, 1), (1, .iconst 0, 1), (2, .iload_n 1, 1), (3, .sipush 900, 3), (6, .invokestatic 34, 3), (9, .invokestatic 40, 3), (12, .putfield 22, 3), (15, .aload_n 0, 1), (16, .iconst 0, 1), (17, .putfield 31, 3), (20, .iconst 0, 1), (21, .istore_n 3, 1), (22, .iload_n 3, 1), (23, .bipush 60, 2), (25, .if_icmp .gt 96, 3), (28, .aload_n 0, 1), (29, .invokevirtual 43, 3), (32, .aload_n 0, 1), (33, .getfield 25, 3), (36, .ifCond .ne 5, 3), (39, .iconst 0, 1), (40, .ireturn, 1), (41, .aload_n 0, 1), (42, .invokevirtual 46, 3), (45, .astore 4, 2), (47, .aload 4, 2), (49, .ifnonnull 5, 3), (52, .iconst 1, 1), (53, .ireturn, 1), (54, .iload_n 3, 1), (55, .bipush 60, 2), (57, .if_icmp .ne 5, 3), (60, .iconst 2, 1), (61, .ireturn, 1), (62, .aload_n 0, 1), (63, .aload 4, 2), (65, .invokevirtual 50, 3), (68, .istore 5, 2), (70, .iload 5, 2), (72, .ifCond .eq 6, 3), (75, .iload 5, 2), (77, .ireturn, 1), (78, .aload_n 2, 1), (79, .aload 4, 2), (81, .aload_n 0, 1), (82, .getfield 15, 3), (85, .iconst 0, 1), (86, .iaload, 1), (87, .aload_n 0, 1), (88, .getfield 15, 3), (91, .iconst 1, 1), (92, .iaload, 1), (93, .aload_n 0, 1), (94, .getfield 15, 3), (97, .iconst 2, 1), (98, .iaload, 1), (99, .aload_n 0, 1), (100, .getfield 15, 3), (103, .iconst 3, 1), (104, .iaload, 1), (105, .aload_n 0, 1), (106, .getfield 15, 3), (109, .iconst 4, 1), (110, .iaload, 1), (111, .invokevirtual 54, 3), (114, .pop, 1), (115, .iinc 3 1, 3), (118, .goto (-96), 3), (121, .iconst 0, 1), (122, .ireturn, 1)]
theorem t_X6_read : jv_dec cX6_read t0_X6_read = true := by decide +kernel
def M_X6_read : jm := (yX6_read, cX6_read, 6, (some .int), 9, 269, [])
theorem mt_X6_34 : Cond.methodLink RX6 34 Lib.Math.min.name ∈ lw_tbl := (jv_at 1011 (by decide +kernel))
theorem mt_X6_40 : Cond.methodLink RX6 40 Lib.Math.max.name ∈ lw_tbl := (jv_at 1012 (by decide +kernel))
theorem lk_X6_50 : Cond.methodLink RX6 50 M_X6_readOperands.1 ∈ lw_tbl := (jv_at 1079 (by decide +kernel))
set_option maxRecDepth 20000 in
theorem me_X6_readOperands : jv_me M_X6_readOperands 1 := ⟨(jv_in4 (List.mem_of_getElem? (i := 202) rfl)), (jv_at 171 (by decide +kernel)), ⟨by decide, by decide⟩, by decide +kernel⟩
theorem lk_X6_54 : jv_lk RX6 54 M_X11_attempt := Or.inr ⟨"SpaceWarden", (jv_at 1097 (by decide +kernel))⟩
set_option maxRecDepth 20000 in
theorem me_X11_attempt : jv_me M_X11_attempt 6 := ⟨(jv_in2 (List.mem_of_getElem? (i := 186) rfl)), (jv_at 163 (by decide +kernel)), ⟨by decide, by decide⟩, by decide +kernel⟩
theorem mv_X11_attempt : jv_mv M_X11_attempt := ⟨(jv_at 585 (by decide +kernel)), (jv_at 10 (by decide +kernel))⟩
theorem mv_X6_readOperands : jv_mv M_X6_readOperands := ⟨(jv_at 1081 (by decide +kernel)), (jv_at 73 (by decide +kernel))⟩
def f_X6_read_h22 (K22 : jh → Option (Int32 × jh)) (R22 : Nat → Nat → Int32 → jh → Option (Int32 × jh)) (x0 : Nat) (x2 : Nat) (x3 : Int32) (h : jh) : Option (Int32 × jh) :=
  (if 60 < x3 then
  K22  h
  else
  cV h x0 4 (f_X6_nextToken x0 h) fun _ h6 =>
  gI h6 x0 4 4 fun v7 =>
  (if ¬ v7 = 0 then
  cV h6 x0 4 (f_X6_actNamed x0 h6) fun v9 h10 =>
  nq v9 (some (1, h10)) fun r11 =>
  (if ¬ x3 = 60 then
  cV h10 x0 4 (f_X6_readOperands x0 r11 h10) fun v13 h14 =>
  (if v13 = 0 then
  gR h14 x0 4 1 fun v16 =>
  aI h14 v16 0 fun v17 =>
  gR h14 x0 4 1 fun v18 =>
  aI h14 v18 1 fun v19 =>
  gR h14 x0 4 1 fun v20 =>
  aI h14 v20 2 fun v21 =>
  gR h14 x0 4 1 fun v22 =>
  aI h14 v22 3 fun v23 =>
  gR h14 x0 4 1 fun v24 =>
  aI h14 v24 4 fun v25 =>
  cV h14 x2 9 (f_X11_attempt x2 r11 v17 v19 v21 v23 v25 h14) fun v26 h27 =>
  R22 x0 x2 (x3 + 1) h27
  else
  some (v13, h14))
  else
  some (2, h10))
  else
  some (0, h6)))
theorem o_f_X6_read_h22 {X : jx} {b0 : Nat × Nat} {K22 : jh → Option (Int32 × jh)} (hK22 : ∀  (h : jh), jv_O X M_X6_read b0 jeI 121 [none, none, none, none, none, none] [] h (K22  h)) : ∀ (x0 : Nat) (x2 : Nat) (x3 : Int32) (h : jh), jv_O X M_X6_read b0 jeI 22 [some (.ref (x0)), none, some (.ref (x2)), some (.int (x3)), none, none] [] h (jlp3 (f_X6_read_h22 K22) jfu x0 x2 x3 h) := by
  refine jlp3_ok (P := fun x0 x2 x3 h o => jv_O X M_X6_read b0 jeI 22 [some (.ref (x0)), none, some (.ref (x2)), some (.int (x3)), none, none] [] h o) (fun R22 hR22 => ?_) (fun _ _ _ _  => jv_none rfl) jfu
  intro x0 x2 x3 h
  unfold f_X6_read_h22
  refine jv_iload_n (jv_dk t_X6_read (k := 12) rfl) rfl rfl ?_
  refine jv_bipush (v := 60) (jv_dk t_X6_read (k := 13) rfl) (by decide) ?_
  refine jv_icmp_gt (tgt := 121) (jv_dk t_X6_read (k := 14) rfl) rfl (fun c5 => ?_) (fun c5 => ?_)
  · refine jv_le_row (jv_le_n (jv_le_n (jv_le_n (jv_le_n (jv_le_n (jv_le_n (jv_le_nil))))))) ?_
    exact hK22 _ 
  · show jv_O _ _ _ _ 28 _ _ _ _
    refine jv_aload_n (jv_dk t_X6_read (k := 15) rfl) rfl rfl (Or.inr ⟨_, rfl⟩) ?_
    refine jv_callV (en' := jeV) (pv := jpV) (As := []) (S := []) (jv_dk t_X6_read (k := 16) rfl) (fun _ => rfl) (Or.inl lk_X6_43) me_X6_nextToken mv_X6_nextToken ⟨by decide, by decide⟩ rfl rfl rfl (Nat.le_of_ble_eq_true rfl) (P_X6_nextToken X x0 h) (fun _ h6 => ?_)
    show jv_O X M_X6_read _ jeI 32 [some (.ref (x0)), none, some (.ref (x2)), some (.int (x3)), none, none] [] h6 _
    refine jv_aload_n (jv_dk t_X6_read (k := 17) rfl) rfl rfl (Or.inr ⟨_, rfl⟩) ?_
    refine jv_gI (jv_dk t_X6_read (k := 18) rfl) fl_X6_25 (fun v7 => ?_)
    refine jv_if_ne (tgt := 41) (jv_dk t_X6_read (k := 19) rfl) rfl (fun c8 => ?_) (fun c8 => ?_)
    · refine jv_aload_n (jv_dk t_X6_read (k := 22) rfl) rfl rfl (Or.inr ⟨_, rfl⟩) ?_
      refine jv_callV (en' := (jeE X)) (pv := (jpE X)) (As := []) (S := []) (jv_dk t_X6_read (k := 23) rfl) (fun _ => rfl) (Or.inl lk_X6_46) me_X6_actNamed mv_X6_actNamed ⟨by decide, by decide⟩ rfl rfl rfl (Nat.le_of_ble_eq_true rfl) (P_X6_actNamed X x0 h6) (fun v9 h10 => ?_)
      show jv_O X M_X6_read _ jeI 45 [some (.ref (x0)), none, some (.ref (x2)), some (.int (x3)), none, none] [va_rf (Option.map (jv_ad X) (v9))] h10 _
      refine jv_astore (L' := [some (.ref (x0)), none, some (.ref (x2)), some (.int (x3)), some (va_rf (Option.map (jv_ad X) (v9))), none]) (jv_dk t_X6_read (k := 24) rfl) (Nat.le_of_ble_eq_true rfl) (va_rf_or _) rfl ?_
      refine jv_aload (jv_dk t_X6_read (k := 25) rfl) rfl (va_rf_or _) ?_
      refine jv_nq (fun e_r11 => ?_) (fun r11 e_r11 => ?_)
      · subst e_r11
        show jv_O X M_X6_read _ jeI 49 [some (.ref (x0)), none, some (.ref (x2)), some (.int (x3)), some (.null), none] [.null] h10 _
        refine jv_ifnonnull_n (jv_dk t_X6_read (k := 26) rfl) ?_
        refine jv_iconst (v := 1) (jv_dk t_X6_read (k := 27) rfl) (by decide) ?_
        exact jv_iret (ty := .int) (jv_dk t_X6_read (k := 28) rfl) rfl rfl rfl
      · subst e_r11
        show jv_O X M_X6_read _ jeI 49 [some (.ref (x0)), none, some (.ref (x2)), some (.int (x3)), some (.ref (jv_ad X (r11))), none] [.ref (jv_ad X (r11))] h10 _
        refine jv_ifnonnull_s (tgt := 54) (jv_dk t_X6_read (k := 26) rfl) rfl ?_
        refine jv_iload_n (jv_dk t_X6_read (k := 29) rfl) rfl rfl ?_
        refine jv_bipush (v := 60) (jv_dk t_X6_read (k := 30) rfl) (by decide) ?_
        refine jv_icmp_ne (tgt := 62) (jv_dk t_X6_read (k := 31) rfl) rfl (fun c12 => ?_) (fun c12 => ?_)
        · refine jv_aload_n (jv_dk t_X6_read (k := 34) rfl) rfl rfl (Or.inr ⟨_, rfl⟩) ?_
          refine jv_aload (jv_dk t_X6_read (k := 35) rfl) rfl (Or.inr ⟨_, rfl⟩) ?_
          refine jv_callV (en' := jeI) (pv := jpI) (As := [.ref (jv_ad X (r11))]) (S := []) (jv_dk t_X6_read (k := 36) rfl) (fun _ => rfl) (Or.inl lk_X6_50) me_X6_readOperands mv_X6_readOperands ⟨by decide, by decide⟩ rfl rfl rfl (Nat.le_of_ble_eq_true rfl) (P_X6_readOperands X x0 r11 h10) (fun v13 h14 => ?_)
          show jv_O X M_X6_read _ jeI 68 [some (.ref (x0)), none, some (.ref (x2)), some (.int (x3)), some (.ref (jv_ad X (r11))), none] [.int (v13)] h14 _
          refine jv_istore (L' := [some (.ref (x0)), none, some (.ref (x2)), some (.int (x3)), some (.ref (jv_ad X (r11))), some (.int (v13))]) (jv_dk t_X6_read (k := 37) rfl) (Nat.le_of_ble_eq_true rfl) rfl ?_
          refine jv_iload (jv_dk t_X6_read (k := 38) rfl) rfl ?_
          refine jv_if_eq (tgt := 78) (jv_dk t_X6_read (k := 39) rfl) rfl (fun c15 => ?_) (fun c15 => ?_)
          · refine jv_aload_n (jv_dk t_X6_read (k := 42) rfl) rfl rfl (Or.inr ⟨_, rfl⟩) ?_
            refine jv_aload (jv_dk t_X6_read (k := 43) rfl) rfl (Or.inr ⟨_, rfl⟩) ?_
            refine jv_aload_n (jv_dk t_X6_read (k := 44) rfl) rfl rfl (Or.inr ⟨_, rfl⟩) ?_
            refine jv_gR (jv_dk t_X6_read (k := 45) rfl) fl_X6_15 (fun v16 => ?_)
            refine jv_iconst (v := 0) (jv_dk t_X6_read (k := 46) rfl) (by decide) ?_
            refine jv_iaload (jv_dk t_X6_read (k := 47) rfl) (fun v17 => ?_)
            refine jv_aload_n (jv_dk t_X6_read (k := 48) rfl) rfl rfl (Or.inr ⟨_, rfl⟩) ?_
            refine jv_gR (jv_dk t_X6_read (k := 49) rfl) fl_X6_15 (fun v18 => ?_)
            refine jv_iconst (v := 1) (jv_dk t_X6_read (k := 50) rfl) (by decide) ?_
            refine jv_iaload (jv_dk t_X6_read (k := 51) rfl) (fun v19 => ?_)
            refine jv_aload_n (jv_dk t_X6_read (k := 52) rfl) rfl rfl (Or.inr ⟨_, rfl⟩) ?_
            refine jv_gR (jv_dk t_X6_read (k := 53) rfl) fl_X6_15 (fun v20 => ?_)
            refine jv_iconst (v := 2) (jv_dk t_X6_read (k := 54) rfl) (by decide) ?_
            refine jv_iaload (jv_dk t_X6_read (k := 55) rfl) (fun v21 => ?_)
            refine jv_aload_n (jv_dk t_X6_read (k := 56) rfl) rfl rfl (Or.inr ⟨_, rfl⟩) ?_
            refine jv_gR (jv_dk t_X6_read (k := 57) rfl) fl_X6_15 (fun v22 => ?_)
            refine jv_iconst (v := 3) (jv_dk t_X6_read (k := 58) rfl) (by decide) ?_
            refine jv_iaload (jv_dk t_X6_read (k := 59) rfl) (fun v23 => ?_)
            refine jv_aload_n (jv_dk t_X6_read (k := 60) rfl) rfl rfl (Or.inr ⟨_, rfl⟩) ?_
            refine jv_gR (jv_dk t_X6_read (k := 61) rfl) fl_X6_15 (fun v24 => ?_)
            refine jv_iconst (v := 4) (jv_dk t_X6_read (k := 62) rfl) (by decide) ?_
            refine jv_iaload (jv_dk t_X6_read (k := 63) rfl) (fun v25 => ?_)
            refine jv_callV (en' := jeI) (pv := jpI) (As := [.ref (jv_ad X (r11)), .int (v17), .int (v19), .int (v21), .int (v23), .int (v25)]) (S := []) (jv_dk t_X6_read (k := 64) rfl) (fun _ => rfl) lk_X6_54 me_X11_attempt mv_X11_attempt ⟨by decide, by decide⟩ rfl rfl rfl (Nat.le_of_ble_eq_true rfl) (P_X11_attempt X x2 r11 v17 v19 v21 v23 v25 h14) (fun v26 h27 => ?_)
            show jv_O X M_X6_read _ jeI 114 [some (.ref (x0)), none, some (.ref (x2)), some (.int (x3)), some (.ref (jv_ad X (r11))), some (.int (v13))] [.int (v26)] h27 _
            refine jv_pop (jv_dk t_X6_read (k := 65) rfl) rfl ?_
            refine jv_iinc (v := 1) (L' := [some (.ref (x0)), none, some (.ref (x2)), some (.int (x3 + 1)), some (.ref (jv_ad X (r11))), some (.int (v13))]) (jv_dk t_X6_read (k := 66) rfl) rfl (by decide) rfl ?_
            refine jv_goto (tgt := 22) (jv_dk t_X6_read (k := 67) rfl) rfl ?_
            refine jv_le_row (jv_le_s (jv_le_n (jv_le_s (jv_le_s (jv_le_n (jv_le_n (jv_le_nil))))))) ?_
            exact hR22 _ _ _ _ 
          · show jv_O _ _ _ _ 75 _ _ _ _
            refine jv_iload (jv_dk t_X6_read (k := 40) rfl) rfl ?_
            exact jv_iret (ty := .int) (jv_dk t_X6_read (k := 41) rfl) rfl rfl rfl
        · show jv_O _ _ _ _ 60 _ _ _ _
          refine jv_iconst (v := 2) (jv_dk t_X6_read (k := 32) rfl) (by decide) ?_
          exact jv_iret (ty := .int) (jv_dk t_X6_read (k := 33) rfl) rfl rfl rfl
    · show jv_O _ _ _ _ 39 _ _ _ _
      refine jv_iconst (v := 0) (jv_dk t_X6_read (k := 20) rfl) (by decide) ?_
      exact jv_iret (ty := .int) (jv_dk t_X6_read (k := 21) rfl) rfl rfl rfl
def f_X6_read (a0 : Nat) (a1 : Int32) (a2 : Nat) (h : jh) : Option (Int32 × jh) :=
  lt1 (if 900 < a1 then 900 else a1) fun v1 =>
  lt1 (if 0 < v1 then v1 else 0) fun v2 =>
  pV h a0 4 3 (.int (v2)) fun h3 =>
  pV h3 a0 4 6 (.int (0)) fun h4 =>
  jlp3 (f_X6_read_h22 (fun  h28 =>
  some (0, h28))) jfu a0 a2 0 h4
theorem P_X6_read (X : jx) (a0 : Nat) (a1 : Int32) (a2 : Nat) (h : jh) : jv_P X M_X6_read jeI [.ref (a0), .int (a1), .ref (a2)] h (f_X6_read a0 a1 a2 h) := by
  refine jv_P.of (by decide) rfl (by simp [Value.category]) (Nat.le_of_ble_eq_true rfl) ?_
  show jv_O X M_X6_read (h.1, h.2.1) jeI 0 [some (.ref (a0)), some (.int (a1)), some (.ref (a2)), none, none, none] [] h (f_X6_read a0 a1 a2 h)
  unfold f_X6_read
  refine jv_aload_n (jv_dk t_X6_read (k := 0) rfl) rfl rfl (Or.inr ⟨_, rfl⟩) ?_
  refine jv_iconst (v := 0) (jv_dk t_X6_read (k := 1) rfl) (by decide) ?_
  refine jv_iload_n (jv_dk t_X6_read (k := 2) rfl) rfl rfl ?_
  refine jv_sipush (v := 900) (jv_dk t_X6_read (k := 3) rfl) (by decide) ?_
  refine jv_lt1 (fun v1 e_v1 => ?_)
  refine jv_mmin (jv_dk t_X6_read (k := 4) rfl) mt_X6_34 (Nat.le_of_ble_eq_true rfl) ⟨by decide, by decide⟩ ?_
  rw [← e_v1]
  refine jv_lt1 (fun v2 e_v2 => ?_)
  refine jv_mmax (jv_dk t_X6_read (k := 5) rfl) mt_X6_40 (Nat.le_of_ble_eq_true rfl) ⟨by decide, by decide⟩ ?_
  rw [← e_v2]
  refine jv_pV (jv_dk t_X6_read (k := 6) rfl) fl_X6_22 kX6 (Or.inl rfl) rfl rfl rfl (fun h3 => ?_)
  refine jv_aload_n (jv_dk t_X6_read (k := 7) rfl) rfl rfl (Or.inr ⟨_, rfl⟩) ?_
  refine jv_iconst (v := 0) (jv_dk t_X6_read (k := 8) rfl) (by decide) ?_
  refine jv_pV (jv_dk t_X6_read (k := 9) rfl) fl_X6_31 kX6 (Or.inl rfl) rfl rfl rfl (fun h4 => ?_)
  refine jv_iconst (v := 0) (jv_dk t_X6_read (k := 10) rfl) (by decide) ?_
  refine jv_istore_n (L' := [some (.ref (a0)), some (.int (a1)), some (.ref (a2)), some (.int (0)), none, none]) (jv_dk t_X6_read (k := 11) rfl) rfl (Nat.le_of_ble_eq_true rfl) rfl ?_
  refine jv_le_row (jv_le_s (jv_le_n (jv_le_s (jv_le_s (jv_le_n (jv_le_n (jv_le_nil))))))) ?_
  refine o_f_X6_read_h22 (fun  h28 => ?_) _ _ _ _ 
  show jv_O X M_X6_read _ jeI 121 [none, none, none, none, none, none] [] h28 _
  refine jv_iconst (v := 0) (jv_dk t_X6_read (k := 68) rfl) (by decide) ?_
  exact jv_iret (ty := .int) (jv_dk t_X6_read (k := 69) rfl) rfl rfl rfl
def t0_X7_init : List (Nat × Instr × Nat) := [(0, .aload_n 0, 1), (1, .invokespecial 3, 3), (4, .aload_n 0, 1), (5, .bipush 9, 2), (7, .newarray .int, 2), (9, .putfield 11, 3), (12, .aload_n 0, 1), (13, .bipush 9, 2), (15, .newarray .int, 2), (17, .putfield 15, 3), (20, .aload_n 0, 1), (21, .bipush 8, 2), (23, .newarray .int, 2), (25, .putfield 18, 3), (28, .aload_n 0, 1), (29, .iconst 0, 1), (30, .putfield 21, 3), (33, .return_, 1)]
theorem t_X7_init : jv_dec cX7_init t0_X7_init = true := by decide +kernel
def M_X7_init : jm := (yX7_init, cX7_init, 1, none, 1, 20, [])
theorem oi_X7_3 : Cond.methodLink RX7 3 Lib.objectInit ∈ lw_tbl := (jv_at 439 (by decide +kernel))
theorem fl_X7_11 : jv_F RX7 11 5 0 RX7 TX7 4 := ⟨rfl, by decide, inX7, Or.inl (jv_at 440 (by decide +kernel))⟩
theorem ff_X7_11 : Cond.fieldLink RX7 11 (TX7 0).1 (TX7 0).2.1 (TX7 0).2.2.1 ∈ lw_tbl := (jv_at 440 (by decide +kernel))
theorem fl_X7_15 : jv_F RX7 15 5 1 RX7 TX7 4 := ⟨rfl, by decide, inX7, Or.inl (jv_at 441 (by decide +kernel))⟩
theorem ff_X7_15 : Cond.fieldLink RX7 15 (TX7 1).1 (TX7 1).2.1 (TX7 1).2.2.1 ∈ lw_tbl := (jv_at 441 (by decide +kernel))
theorem fl_X7_18 : jv_F RX7 18 5 2 RX7 TX7 4 := ⟨rfl, by decide, inX7, Or.inl (jv_at 442 (by decide +kernel))⟩
theorem ff_X7_18 : Cond.fieldLink RX7 18 (TX7 2).1 (TX7 2).2.1 (TX7 2).2.2.1 ∈ lw_tbl := (jv_at 442 (by decide +kernel))
theorem fl_X7_21 : jv_F RX7 21 5 3 RX7 TX7 4 := ⟨rfl, by decide, inX7, Or.inl (jv_at 443 (by decide +kernel))⟩
def f_X7_init (a0 : Nat) (h : jh) : Option (Unit × jh) :=
  nI4 h 9 fun q1 h2 =>
  pV h2 a0 5 0 (.ref (q1)) fun h3 =>
  nI4 h3 9 fun q4 h5 =>
  pV h5 a0 5 1 (.ref (q4)) fun h6 =>
  nI4 h6 8 fun q7 h8 =>
  pV h8 a0 5 2 (.ref (q7)) fun h9 =>
  pV h9 a0 5 3 (.int (0)) fun h10 =>
  some ((), h10)
theorem P_X7_init (X : jx) (a0 : Nat) (h : jh) : jv_P X M_X7_init jeV [.ref (a0)] h (f_X7_init a0 h) := by
  refine jv_P.of (by decide) rfl (by simp [Value.category]) (Nat.le_of_ble_eq_true rfl) ?_
  show jv_O X M_X7_init (h.1, h.2.1) jeV 0 [some (.ref (a0))] [] h (f_X7_init a0 h)
  unfold f_X7_init
  refine jv_aload_n (jv_dk t_X7_init (k := 0) rfl) rfl rfl (Or.inr ⟨_, rfl⟩) ?_
  refine jv_obj (jv_dk t_X7_init (k := 1) rfl) oi_X7_3 oi_2 oi_3 (Nat.le_of_ble_eq_true rfl) ⟨by decide, by decide⟩ ?_
  refine jv_aload_n (jv_dk t_X7_init (k := 2) rfl) rfl rfl (Or.inr ⟨_, rfl⟩) ?_
  refine jv_bipush (v := 9) (jv_dk t_X7_init (k := 3) rfl) (by decide) ?_
  refine jv_newI (jv_dk t_X7_init (k := 4) rfl) ac_I (fun q1 h2 => ?_)
  refine jv_pV (jv_dk t_X7_init (k := 5) rfl) fl_X7_11 kX7 (Or.inr ⟨rfl, rfl, rfl, ff_X7_11⟩) rfl rfl rfl (fun h3 => ?_)
  refine jv_aload_n (jv_dk t_X7_init (k := 6) rfl) rfl rfl (Or.inr ⟨_, rfl⟩) ?_
  refine jv_bipush (v := 9) (jv_dk t_X7_init (k := 7) rfl) (by decide) ?_
  refine jv_newI (jv_dk t_X7_init (k := 8) rfl) ac_I (fun q4 h5 => ?_)
  refine jv_pV (jv_dk t_X7_init (k := 9) rfl) fl_X7_15 kX7 (Or.inr ⟨rfl, rfl, rfl, ff_X7_15⟩) rfl rfl rfl (fun h6 => ?_)
  refine jv_aload_n (jv_dk t_X7_init (k := 10) rfl) rfl rfl (Or.inr ⟨_, rfl⟩) ?_
  refine jv_bipush (v := 8) (jv_dk t_X7_init (k := 11) rfl) (by decide) ?_
  refine jv_newI (jv_dk t_X7_init (k := 12) rfl) ac_I (fun q7 h8 => ?_)
  refine jv_pV (jv_dk t_X7_init (k := 13) rfl) fl_X7_18 kX7 (Or.inr ⟨rfl, rfl, rfl, ff_X7_18⟩) rfl rfl rfl (fun h9 => ?_)
  refine jv_aload_n (jv_dk t_X7_init (k := 14) rfl) rfl rfl (Or.inr ⟨_, rfl⟩) ?_
  refine jv_iconst (v := 0) (jv_dk t_X7_init (k := 15) rfl) (by decide) ?_
  refine jv_pV (jv_dk t_X7_init (k := 16) rfl) fl_X7_21 kX7 (Or.inl rfl) rfl rfl rfl (fun h10 => ?_)
  exact jv_vret (jv_dk t_X7_init (k := 17) rfl) rfl rfl
def t0_X7_stepsTo : List (Nat × Instr × Nat) := [(0, .iload_n 1, 1), (1, .ifCond .lt 18, 3), (4, .iload_n 1, 1), (5, .bipush 8, 2), (7, .if_icmp .ge 12, 3), (10, .aload_n 0, 1), (11, .getfield 18, 3), (14, .iload_n 1, 1), (15, .iaload, 1), (16, .goto 4, 3), (19, .iconst (-1), 1), (20, .ireturn, 1)]
theorem t_X7_stepsTo : jv_dec cX7_stepsTo t0_X7_stepsTo = true := by decide +kernel
def M_X7_stepsTo : jm := (yX7_stepsTo, cX7_stepsTo, 2, (some .int), 0, 0, [])
def f_X7_stepsTo (a0 : Nat) (a1 : Int32) (h : jh) : Option (Int32 × jh) :=
  (if a1 < 0 then
  some ((-1), h)
  else
  (if 8 ≤ a1 then
  some ((-1), h)
  else
  gR h a0 5 2 fun v3 =>
  aI h v3 a1 fun v4 =>
  some (v4, h)))
theorem P_X7_stepsTo (X : jx) (a0 : Nat) (a1 : Int32) (h : jh) : jv_P X M_X7_stepsTo jeI [.ref (a0), .int (a1)] h (f_X7_stepsTo a0 a1 h) := by
  refine jv_P.of (by decide) rfl (by simp [Value.category]) (Nat.le_of_ble_eq_true rfl) ?_
  show jv_O X M_X7_stepsTo (h.1, h.2.1) jeI 0 [some (.ref (a0)), some (.int (a1))] [] h (f_X7_stepsTo a0 a1 h)
  unfold f_X7_stepsTo
  refine jv_iload_n (jv_dk t_X7_stepsTo (k := 0) rfl) rfl rfl ?_
  refine jv_if_lt (tgt := 19) (jv_dk t_X7_stepsTo (k := 1) rfl) rfl (fun c1 => ?_) (fun c1 => ?_)
  · refine jv_iconst (v := (-1)) (jv_dk t_X7_stepsTo (k := 10) rfl) (by decide) ?_
    exact jv_iret (ty := .int) (jv_dk t_X7_stepsTo (k := 11) rfl) rfl rfl rfl
  · show jv_O _ _ _ _ 4 _ _ _ _
    refine jv_iload_n (jv_dk t_X7_stepsTo (k := 2) rfl) rfl rfl ?_
    refine jv_bipush (v := 8) (jv_dk t_X7_stepsTo (k := 3) rfl) (by decide) ?_
    refine jv_icmp_ge (tgt := 19) (jv_dk t_X7_stepsTo (k := 4) rfl) rfl (fun c2 => ?_) (fun c2 => ?_)
    · refine jv_iconst (v := (-1)) (jv_dk t_X7_stepsTo (k := 10) rfl) (by decide) ?_
      exact jv_iret (ty := .int) (jv_dk t_X7_stepsTo (k := 11) rfl) rfl rfl rfl
    · show jv_O _ _ _ _ 10 _ _ _ _
      refine jv_aload_n (jv_dk t_X7_stepsTo (k := 5) rfl) rfl rfl (Or.inr ⟨_, rfl⟩) ?_
      refine jv_gR (jv_dk t_X7_stepsTo (k := 6) rfl) fl_X7_18 (fun v3 => ?_)
      refine jv_iload_n (jv_dk t_X7_stepsTo (k := 7) rfl) rfl rfl ?_
      refine jv_iaload (jv_dk t_X7_stepsTo (k := 8) rfl) (fun v4 => ?_)
      refine jv_goto (tgt := 20) (jv_dk t_X7_stepsTo (k := 9) rfl) rfl ?_
      exact jv_iret (ty := .int) (jv_dk t_X7_stepsTo (k := 11) rfl) rfl rfl rfl
def t0_X7_reach : List (Nat × Instr × Nat) := [(0, .aload_n 0, 1), (1, .getfield 11, 3), (4, .iload_n 1, 1), (5, .iaload, 1), (6, .iconst (-1), 1), (7, .if_icmp .ne 39, 3), (10, .aload_n 0, 1), (11, .getfield 21, 3), (14, .bipush 9, 2), (16, .if_icmp .ge 30, 3), (19, .aload_n 0, 1), (20, .getfield 11, 3), (23, .iload_n 1, 1), (24, .iload_n 2, 1), (25, .iastore, 1), (26, .aload_n 0, 1), (27, .getfield 15, 3), (30, .aload_n 0, 1), (31, .getfield 21, 3), (34, .iload_n 1, 1), (35, .iastore, 1), (36, .aload_n 0, 1), (37, .dup, 1), (38, .getfield 21, 3), (41, .iconst 1, 1), (42, .iadd, 1), (43, .putfield 21, 3), (46, .return_, 1)]
theorem t_X7_reach : jv_dec cX7_reach t0_X7_reach = true := by decide +kernel
def M_X7_reach : jm := (yX7_reach, cX7_reach, 3, none, 0, 0, [])
def f_X7_reach (a0 : Nat) (a1 : Int32) (a2 : Int32) (h : jh) : Option (Unit × jh) :=
  gR h a0 5 0 fun v1 =>
  aI h v1 a1 fun v2 =>
  (if ¬ v2 = (-1) then
  some ((), h)
  else
  gI h a0 5 3 fun v4 =>
  (if 9 ≤ v4 then
  some ((), h)
  else
  gR h a0 5 0 fun v6 =>
  sI h v6 a1 a2 fun h7 =>
  gR h7 a0 5 1 fun v8 =>
  gI h7 a0 5 3 fun v9 =>
  sI h7 v8 v9 a1 fun h10 =>
  gI h10 a0 5 3 fun v11 =>
  pV h10 a0 5 3 (.int (v11 + 1)) fun h12 =>
  some ((), h12)))
theorem P_X7_reach (X : jx) (a0 : Nat) (a1 : Int32) (a2 : Int32) (h : jh) : jv_P X M_X7_reach jeV [.ref (a0), .int (a1), .int (a2)] h (f_X7_reach a0 a1 a2 h) := by
  refine jv_P.of (by decide) rfl (by simp [Value.category]) (Nat.le_of_ble_eq_true rfl) ?_
  show jv_O X M_X7_reach (h.1, h.2.1) jeV 0 [some (.ref (a0)), some (.int (a1)), some (.int (a2))] [] h (f_X7_reach a0 a1 a2 h)
  unfold f_X7_reach
  refine jv_aload_n (jv_dk t_X7_reach (k := 0) rfl) rfl rfl (Or.inr ⟨_, rfl⟩) ?_
  refine jv_gR (jv_dk t_X7_reach (k := 1) rfl) fl_X7_11 (fun v1 => ?_)
  refine jv_iload_n (jv_dk t_X7_reach (k := 2) rfl) rfl rfl ?_
  refine jv_iaload (jv_dk t_X7_reach (k := 3) rfl) (fun v2 => ?_)
  refine jv_iconst (v := (-1)) (jv_dk t_X7_reach (k := 4) rfl) (by decide) ?_
  refine jv_icmp_ne (tgt := 46) (jv_dk t_X7_reach (k := 5) rfl) rfl (fun c3 => ?_) (fun c3 => ?_)
  · exact jv_vret (jv_dk t_X7_reach (k := 27) rfl) rfl rfl
  · show jv_O _ _ _ _ 10 _ _ _ _
    refine jv_aload_n (jv_dk t_X7_reach (k := 6) rfl) rfl rfl (Or.inr ⟨_, rfl⟩) ?_
    refine jv_gI (jv_dk t_X7_reach (k := 7) rfl) fl_X7_21 (fun v4 => ?_)
    refine jv_bipush (v := 9) (jv_dk t_X7_reach (k := 8) rfl) (by decide) ?_
    refine jv_icmp_ge (tgt := 46) (jv_dk t_X7_reach (k := 9) rfl) rfl (fun c5 => ?_) (fun c5 => ?_)
    · exact jv_vret (jv_dk t_X7_reach (k := 27) rfl) rfl rfl
    · show jv_O _ _ _ _ 19 _ _ _ _
      refine jv_aload_n (jv_dk t_X7_reach (k := 10) rfl) rfl rfl (Or.inr ⟨_, rfl⟩) ?_
      refine jv_gR (jv_dk t_X7_reach (k := 11) rfl) fl_X7_11 (fun v6 => ?_)
      refine jv_iload_n (jv_dk t_X7_reach (k := 12) rfl) rfl rfl ?_
      refine jv_iload_n (jv_dk t_X7_reach (k := 13) rfl) rfl rfl ?_
      refine jv_iastore (jv_dk t_X7_reach (k := 14) rfl) (fun h7 => ?_)
      refine jv_aload_n (jv_dk t_X7_reach (k := 15) rfl) rfl rfl (Or.inr ⟨_, rfl⟩) ?_
      refine jv_gR (jv_dk t_X7_reach (k := 16) rfl) fl_X7_15 (fun v8 => ?_)
      refine jv_aload_n (jv_dk t_X7_reach (k := 17) rfl) rfl rfl (Or.inr ⟨_, rfl⟩) ?_
      refine jv_gI (jv_dk t_X7_reach (k := 18) rfl) fl_X7_21 (fun v9 => ?_)
      refine jv_iload_n (jv_dk t_X7_reach (k := 19) rfl) rfl rfl ?_
      refine jv_iastore (jv_dk t_X7_reach (k := 20) rfl) (fun h10 => ?_)
      refine jv_aload_n (jv_dk t_X7_reach (k := 21) rfl) rfl rfl (Or.inr ⟨_, rfl⟩) ?_
      refine jv_dup (jv_dk t_X7_reach (k := 22) rfl) rfl ?_
      refine jv_gI (jv_dk t_X7_reach (k := 23) rfl) fl_X7_21 (fun v11 => ?_)
      refine jv_iconst (v := 1) (jv_dk t_X7_reach (k := 24) rfl) (by decide) ?_
      refine jv_iadd (jv_dk t_X7_reach (k := 25) rfl) ?_
      refine jv_pV (jv_dk t_X7_reach (k := 26) rfl) fl_X7_21 kX7 (Or.inl rfl) rfl rfl rfl (fun h12 => ?_)
      exact jv_vret (jv_dk t_X7_reach (k := 27) rfl) rfl rfl
def t0_X7_lookAround : List (Nat × Instr × Nat) := [(0, .aload_n 1, 1), (1, .getfield 25, 3), (4, .astore 4, 2), (6, .iload_n 3, 1), (7, .bipush 8, 2), (9, .if_icmp .ne 13, 3), (12, .aload 4, 2), (14, .getfield 40, 3), (17, .iload_n 2, 1), (18, .iaload, 1), (19, .goto 4, 3), (22, .iload_n 3, 1), (23, .istore 5, 2), (25, .iload_n 3, 1), (26, .bipush 8, 2), (28, .if_icmp .ne 12, 3), (31, .aload 4, 2), (33, .iload_n 2, 1), (34, .invokevirtual 43, 3), (37, .ifCond .eq 7, 3), (40, .iconst 1, 1), (41, .goto 4, 3), (44, .iconst 0, 1), (45, .istore 6, 2), (47, .aload 4, 2), (49, .getfield 47, 3), (52, .iload_n 2, 1), (53, .iaload, 1), (54, .istore 7, 2), (56, .iconst 0, 1), (57, .istore 8, 2), (59, .iload 8, 2), (61, .bipush 16, 2), (63, .if_icmp .ge 153, 3), (66, .iload 8, 2), (68, .iload_n 2, 1), (69, .if_icmp .eq 141, 3), (72, .aload 4, 2), (74, .iload 8, 2), (76, .invokevirtual 50, 3), (79, .ifCond .eq 131, 3), (82, .aload_n 1, 1), (83, .iload_n 2, 1), (84, .iload 8, 2), (86, .invokevirtual 53, 3), (89, .ifCond .ne 6, 3), (92, .goto 118, 3), (95, .aload 4, 2), (97, .getfield 40, 3), (100, .iload 8, 2), (102, .iaload, 1), (103, .istore 9, 2), (105, .iload 9, 2), (107, .iload 5, 2), (109, .if_icmp .eq 35, 3), (112, .aload_n 1, 1), (113, .getfield 57, 3), (116, .iload 9, 2), (118, .iload 5, 2), (120, .iload 6, 2), (122, .iload 7, 2), (124, .invokevirtual 61, 3), (127, .ifCond .eq 17, 3), (130, .aload_n 0, 1), (131, .iload 9, 2), (133, .aload_n 0, 1), (134, .getfield 11, 3), (137, .iload_n 3, 1), (138, .iaload, 1), (139, .iconst 1, 1), (140, .iadd, 1), (141, .invokevirtual 67, 3), (144, .aload 4, 2), (146, .getfield 31, 3), (149, .iload 8, 2), (151, .iaload, 1), (152, .istore 10, 2), (154, .iload 6, 2), (156, .ifCond .eq 54, 3), (159, .aload_n 0, 1), (160, .getfield 18, 3), (163, .iload 10, 2), (165, .iaload, 1), (166, .iconst (-1), 1), (167, .if_icmp .ne 43, 3), (170, .aload_n 1, 1), (171, .getfield 57, 3), (174, .aload_n 1, 1), (175, .getfield 71, 3), (178, .getfield 75, 3), (181, .iload 10, 2), (183, .iaload, 1), (184, .iload 5, 2), (186, .iconst 1, 1), (187, .iload 7, 2), (189, .invokevirtual 61, 3), (192, .ifCond .eq 18, 3), (195, .aload_n 0, 1), (196, .getfield 18, 3), (199, .iload 10, 2), (201, .aload_n 0, 1), (202, .getfield 11, 3), (205, .iload_n 3, 1), (206, .iaload, 1), (207, .iconst 1, 1), (208, .iadd, 1), (209, .iastore, 1), (210, .iinc 8 1, 3), (213, .goto (-154), 3), (216, .return_, 1)]
theorem t_X7_lookAround : jv_dec cX7_lookAround t0_X7_lookAround = true := by decide +kernel
def M_X7_lookAround : jm := (yX7_lookAround, cX7_lookAround, 11, none, 2, 48, [])
theorem fl_X7_25 : jv_F RX7 25 9 0 RX11 TX11 4 := ⟨rfl, by decide, inX11, Or.inr ⟨"SpaceWarden", (jv_at 367 (by decide +kernel))⟩⟩
theorem fl_X7_47 : jv_F RX7 47 3 5 RX5 TX5 9 := ⟨rfl, by decide, inX5, Or.inr ⟨"SpaceWarden", (jv_at 232 (by decide +kernel))⟩⟩
theorem lk_X7_50 : jv_lk RX7 50 M_X5_has := Or.inr ⟨"SpaceWarden", (jv_at 1275 (by decide +kernel))⟩
theorem lk_X7_53 : jv_lk RX7 53 M_X11_sees := Or.inr ⟨"SpaceWarden", (jv_at 1276 (by decide +kernel))⟩
theorem fl_X7_40 : jv_F RX7 40 3 2 RX5 TX5 9 := ⟨rfl, by decide, inX5, Or.inr ⟨"SpaceWarden", (jv_at 221 (by decide +kernel))⟩⟩
theorem fl_X7_31 : jv_F RX7 31 3 3 RX5 TX5 9 := ⟨rfl, by decide, inX5, Or.inr ⟨"SpaceWarden", (jv_at 225 (by decide +kernel))⟩⟩
theorem fl_X7_57 : jv_F RX7 57 9 2 RX11 TX11 4 := ⟨rfl, by decide, inX11, Or.inr ⟨"SpaceWarden", (jv_at 374 (by decide +kernel))⟩⟩
theorem fl_X7_71 : jv_F RX7 71 9 3 RX11 TX11 4 := ⟨rfl, by decide, inX11, Or.inr ⟨"SpaceWarden", (jv_at 377 (by decide +kernel))⟩⟩
theorem fl_X7_75 : jv_F RX7 75 0 1 RX2 TX2 4 := ⟨rfl, by decide, inX2, Or.inr ⟨"SpaceWarden", (jv_at 351 (by decide +kernel))⟩⟩
theorem lk_X7_61 : jv_lk RX7 61 M_X10_isRuled := Or.inr ⟨"SpaceWarden", (jv_at 1277 (by decide +kernel))⟩
theorem lk_X7_67 : Cond.methodLink RX7 67 M_X7_reach.1 ∈ lw_tbl := (jv_at 1278 (by decide +kernel))
set_option maxRecDepth 20000 in
theorem me_X7_reach : jv_me M_X7_reach 2 := ⟨(jv_in5 (List.mem_of_getElem? (i := 161) rfl)), (jv_at 170 (by decide +kernel)), ⟨by decide, by decide⟩, by decide +kernel⟩
theorem mv_X7_reach : jv_mv M_X7_reach := ⟨(jv_at 1280 (by decide +kernel)), (jv_at 88 (by decide +kernel))⟩
theorem lk_X7_43 : jv_lk RX7 43 M_X5_hasPower := Or.inr ⟨"SpaceWarden", (jv_at 1274 (by decide +kernel))⟩
def f_X7_lookAround_b144 (R59 : Nat → Nat → Int32 → Int32 → Nat → Int32 → Int32 → Int32 → Int32 → jh → Option (Unit × jh)) (K59 : jh → Option (Unit × jh)) (x0 : Nat) (x1 : Nat) (x2 : Int32) (x3 : Int32) (x4 : Nat) (x5 : Int32) (x6 : Int32) (x7 : Int32) (x8 : Int32) (h : jh) : Option (Unit × jh) :=
  gR h x4 3 3 fun v17 =>
  aI h v17 x8 fun v18 =>
  (if x6 = 0 then
  R59 x0 x1 x2 x3 x4 x5 x6 x7 (x8 + 1) h
  else
  gR h x0 5 2 fun v20 =>
  aI h v20 v18 fun v21 =>
  (if ¬ v21 = (-1) then
  R59 x0 x1 x2 x3 x4 x5 x6 x7 (x8 + 1) h
  else
  gR h x1 9 2 fun v23 =>
  gR h x1 9 3 fun v24 =>
  gR h v24 0 1 fun v25 =>
  aI h v25 v18 fun v26 =>
  cV h v23 8 (f_X10_isRuled v23 v26 x5 1 x7 h) fun v27 h28 =>
  (if v27 = 0 then
  R59 x0 x1 x2 x3 x4 x5 x6 x7 (x8 + 1) h28
  else
  gR h28 x0 5 2 fun v30 =>
  gR h28 x0 5 0 fun v31 =>
  aI h28 v31 x3 fun v32 =>
  sI h28 v30 v18 (v32 + 1) fun h33 =>
  R59 x0 x1 x2 x3 x4 x5 x6 x7 (x8 + 1) h33)))
theorem o_f_X7_lookAround_b144 {X : jx} {b0 : Nat × Nat} {R59 : Nat → Nat → Int32 → Int32 → Nat → Int32 → Int32 → Int32 → Int32 → jh → Option (Unit × jh)} {K59 : jh → Option (Unit × jh)} (hR59 : ∀ (x0 : Nat) (x1 : Nat) (x2 : Int32) (x3 : Int32) (x4 : Nat) (x5 : Int32) (x6 : Int32) (x7 : Int32) (x8 : Int32) (h : jh), jv_O X M_X7_lookAround b0 jeV 59 [some (.ref (x0)), some (.ref (x1)), some (.int (x2)), some (.int (x3)), some (.ref (x4)), some (.int (x5)), some (.int (x6)), some (.int (x7)), some (.int (x8)), none, none] [] h (R59 x0 x1 x2 x3 x4 x5 x6 x7 x8 h)) (hK59 : ∀  (h : jh), jv_O X M_X7_lookAround b0 jeV 216 [none, none, none, none, none, none, none, none, none, none, none] [] h (K59  h)) (x0 : Nat) (x1 : Nat) (x2 : Int32) (x3 : Int32) (x4 : Nat) (x5 : Int32) (x6 : Int32) (x7 : Int32) (x8 : Int32) (h : jh) : jv_O X M_X7_lookAround b0 jeV 144 [some (.ref (x0)), some (.ref (x1)), some (.int (x2)), some (.int (x3)), some (.ref (x4)), some (.int (x5)), some (.int (x6)), some (.int (x7)), some (.int (x8)), none, none] [] h (f_X7_lookAround_b144 R59 K59 x0 x1 x2 x3 x4 x5 x6 x7 x8 h) := by
  unfold f_X7_lookAround_b144
  refine jv_aload (jv_dk t_X7_lookAround (k := 72) rfl) rfl (Or.inr ⟨_, rfl⟩) ?_
  refine jv_gR (jv_dk t_X7_lookAround (k := 73) rfl) fl_X7_31 (fun v17 => ?_)
  refine jv_iload (jv_dk t_X7_lookAround (k := 74) rfl) rfl ?_
  refine jv_iaload (jv_dk t_X7_lookAround (k := 75) rfl) (fun v18 => ?_)
  refine jv_istore (L' := [some (.ref (x0)), some (.ref (x1)), some (.int (x2)), some (.int (x3)), some (.ref (x4)), some (.int (x5)), some (.int (x6)), some (.int (x7)), some (.int (x8)), none, some (.int (v18))]) (jv_dk t_X7_lookAround (k := 76) rfl) (Nat.le_of_ble_eq_true rfl) rfl ?_
  refine jv_iload (jv_dk t_X7_lookAround (k := 77) rfl) rfl ?_
  refine jv_if_eq (tgt := 210) (jv_dk t_X7_lookAround (k := 78) rfl) rfl (fun c19 => ?_) (fun c19 => ?_)
  · refine jv_iinc (v := 1) (L' := [some (.ref (x0)), some (.ref (x1)), some (.int (x2)), some (.int (x3)), some (.ref (x4)), some (.int (x5)), some (.int (x6)), some (.int (x7)), some (.int (x8 + 1)), none, some (.int (v18))]) (jv_dk t_X7_lookAround (k := 107) rfl) rfl (by decide) rfl ?_
    refine jv_goto (tgt := 59) (jv_dk t_X7_lookAround (k := 108) rfl) rfl ?_
    refine jv_le_row (jv_le_s (jv_le_s (jv_le_s (jv_le_s (jv_le_s (jv_le_s (jv_le_s (jv_le_s (jv_le_s (jv_le_n (jv_le_n (jv_le_nil)))))))))))) ?_
    exact hR59 _ _ _ _ _ _ _ _ _ _ 
  · show jv_O _ _ _ _ 159 _ _ _ _
    refine jv_aload_n (jv_dk t_X7_lookAround (k := 79) rfl) rfl rfl (Or.inr ⟨_, rfl⟩) ?_
    refine jv_gR (jv_dk t_X7_lookAround (k := 80) rfl) fl_X7_18 (fun v20 => ?_)
    refine jv_iload (jv_dk t_X7_lookAround (k := 81) rfl) rfl ?_
    refine jv_iaload (jv_dk t_X7_lookAround (k := 82) rfl) (fun v21 => ?_)
    refine jv_iconst (v := (-1)) (jv_dk t_X7_lookAround (k := 83) rfl) (by decide) ?_
    refine jv_icmp_ne (tgt := 210) (jv_dk t_X7_lookAround (k := 84) rfl) rfl (fun c22 => ?_) (fun c22 => ?_)
    · refine jv_iinc (v := 1) (L' := [some (.ref (x0)), some (.ref (x1)), some (.int (x2)), some (.int (x3)), some (.ref (x4)), some (.int (x5)), some (.int (x6)), some (.int (x7)), some (.int (x8 + 1)), none, some (.int (v18))]) (jv_dk t_X7_lookAround (k := 107) rfl) rfl (by decide) rfl ?_
      refine jv_goto (tgt := 59) (jv_dk t_X7_lookAround (k := 108) rfl) rfl ?_
      refine jv_le_row (jv_le_s (jv_le_s (jv_le_s (jv_le_s (jv_le_s (jv_le_s (jv_le_s (jv_le_s (jv_le_s (jv_le_n (jv_le_n (jv_le_nil)))))))))))) ?_
      exact hR59 _ _ _ _ _ _ _ _ _ _ 
    · show jv_O _ _ _ _ 170 _ _ _ _
      refine jv_aload_n (jv_dk t_X7_lookAround (k := 85) rfl) rfl rfl (Or.inr ⟨_, rfl⟩) ?_
      refine jv_gR (jv_dk t_X7_lookAround (k := 86) rfl) fl_X7_57 (fun v23 => ?_)
      refine jv_aload_n (jv_dk t_X7_lookAround (k := 87) rfl) rfl rfl (Or.inr ⟨_, rfl⟩) ?_
      refine jv_gR (jv_dk t_X7_lookAround (k := 88) rfl) fl_X7_71 (fun v24 => ?_)
      refine jv_gR (jv_dk t_X7_lookAround (k := 89) rfl) fl_X7_75 (fun v25 => ?_)
      refine jv_iload (jv_dk t_X7_lookAround (k := 90) rfl) rfl ?_
      refine jv_iaload (jv_dk t_X7_lookAround (k := 91) rfl) (fun v26 => ?_)
      refine jv_iload (jv_dk t_X7_lookAround (k := 92) rfl) rfl ?_
      refine jv_iconst (v := 1) (jv_dk t_X7_lookAround (k := 93) rfl) (by decide) ?_
      refine jv_iload (jv_dk t_X7_lookAround (k := 94) rfl) rfl ?_
      refine jv_callV (en' := jeI) (pv := jpI) (As := [.int (v26), .int (x5), .int (1), .int (x7)]) (S := []) (jv_dk t_X7_lookAround (k := 95) rfl) (fun _ => rfl) lk_X7_61 me_X10_isRuled mv_X10_isRuled ⟨by decide, by decide⟩ rfl rfl rfl (Nat.le_of_ble_eq_true rfl) (P_X10_isRuled X v23 v26 x5 1 x7 h) (fun v27 h28 => ?_)
      show jv_O X M_X7_lookAround _ jeV 192 [some (.ref (x0)), some (.ref (x1)), some (.int (x2)), some (.int (x3)), some (.ref (x4)), some (.int (x5)), some (.int (x6)), some (.int (x7)), some (.int (x8)), none, some (.int (v18))] [.int (v27)] h28 _
      refine jv_if_eq (tgt := 210) (jv_dk t_X7_lookAround (k := 96) rfl) rfl (fun c29 => ?_) (fun c29 => ?_)
      · refine jv_iinc (v := 1) (L' := [some (.ref (x0)), some (.ref (x1)), some (.int (x2)), some (.int (x3)), some (.ref (x4)), some (.int (x5)), some (.int (x6)), some (.int (x7)), some (.int (x8 + 1)), none, some (.int (v18))]) (jv_dk t_X7_lookAround (k := 107) rfl) rfl (by decide) rfl ?_
        refine jv_goto (tgt := 59) (jv_dk t_X7_lookAround (k := 108) rfl) rfl ?_
        refine jv_le_row (jv_le_s (jv_le_s (jv_le_s (jv_le_s (jv_le_s (jv_le_s (jv_le_s (jv_le_s (jv_le_s (jv_le_n (jv_le_n (jv_le_nil)))))))))))) ?_
        exact hR59 _ _ _ _ _ _ _ _ _ _ 
      · show jv_O _ _ _ _ 195 _ _ _ _
        refine jv_aload_n (jv_dk t_X7_lookAround (k := 97) rfl) rfl rfl (Or.inr ⟨_, rfl⟩) ?_
        refine jv_gR (jv_dk t_X7_lookAround (k := 98) rfl) fl_X7_18 (fun v30 => ?_)
        refine jv_iload (jv_dk t_X7_lookAround (k := 99) rfl) rfl ?_
        refine jv_aload_n (jv_dk t_X7_lookAround (k := 100) rfl) rfl rfl (Or.inr ⟨_, rfl⟩) ?_
        refine jv_gR (jv_dk t_X7_lookAround (k := 101) rfl) fl_X7_11 (fun v31 => ?_)
        refine jv_iload_n (jv_dk t_X7_lookAround (k := 102) rfl) rfl rfl ?_
        refine jv_iaload (jv_dk t_X7_lookAround (k := 103) rfl) (fun v32 => ?_)
        refine jv_iconst (v := 1) (jv_dk t_X7_lookAround (k := 104) rfl) (by decide) ?_
        refine jv_iadd (jv_dk t_X7_lookAround (k := 105) rfl) ?_
        refine jv_iastore (jv_dk t_X7_lookAround (k := 106) rfl) (fun h33 => ?_)
        refine jv_iinc (v := 1) (L' := [some (.ref (x0)), some (.ref (x1)), some (.int (x2)), some (.int (x3)), some (.ref (x4)), some (.int (x5)), some (.int (x6)), some (.int (x7)), some (.int (x8 + 1)), none, some (.int (v18))]) (jv_dk t_X7_lookAround (k := 107) rfl) rfl (by decide) rfl ?_
        refine jv_goto (tgt := 59) (jv_dk t_X7_lookAround (k := 108) rfl) rfl ?_
        refine jv_le_row (jv_le_s (jv_le_s (jv_le_s (jv_le_s (jv_le_s (jv_le_s (jv_le_s (jv_le_s (jv_le_s (jv_le_n (jv_le_n (jv_le_nil)))))))))))) ?_
        exact hR59 _ _ _ _ _ _ _ _ _ _ 
def f_X7_lookAround_h59 (K59 : jh → Option (Unit × jh)) (R59 : Nat → Nat → Int32 → Int32 → Nat → Int32 → Int32 → Int32 → Int32 → jh → Option (Unit × jh)) (x0 : Nat) (x1 : Nat) (x2 : Int32) (x3 : Int32) (x4 : Nat) (x5 : Int32) (x6 : Int32) (x7 : Int32) (x8 : Int32) (h : jh) : Option (Unit × jh) :=
  (if 16 ≤ x8 then
  K59  h
  else
  (if x8 = x2 then
  R59 x0 x1 x2 x3 x4 x5 x6 x7 (x8 + 1) h
  else
  cV h x4 3 (f_X5_has x4 x8 h) fun v8 h9 =>
  (if v8 = 0 then
  R59 x0 x1 x2 x3 x4 x5 x6 x7 (x8 + 1) h9
  else
  cV h9 x1 9 (f_X11_sees x1 x2 x8 h9) fun v11 h12 =>
  (if ¬ v11 = 0 then
  gR h12 x4 3 2 fun v14 =>
  aI h12 v14 x8 fun v15 =>
  (if v15 = x5 then
  f_X7_lookAround_b144 R59 K59 x0 x1 x2 x3 x4 x5 x6 x7 x8 h12
  else
  gR h12 x1 9 2 fun v34 =>
  cV h12 v34 8 (f_X10_isRuled v34 v15 x5 x6 x7 h12) fun v35 h36 =>
  (if v35 = 0 then
  f_X7_lookAround_b144 R59 K59 x0 x1 x2 x3 x4 x5 x6 x7 x8 h36
  else
  gR h36 x0 5 0 fun v38 =>
  aI h36 v38 x3 fun v39 =>
  cV h36 x0 5 (f_X7_reach x0 v15 (v39 + 1) h36) fun _ h40 =>
  f_X7_lookAround_b144 R59 K59 x0 x1 x2 x3 x4 x5 x6 x7 x8 h40))
  else
  R59 x0 x1 x2 x3 x4 x5 x6 x7 (x8 + 1) h12))))
theorem o_f_X7_lookAround_h59 {X : jx} {b0 : Nat × Nat} {K59 : jh → Option (Unit × jh)} (hK59 : ∀  (h : jh), jv_O X M_X7_lookAround b0 jeV 216 [none, none, none, none, none, none, none, none, none, none, none] [] h (K59  h)) : ∀ (x0 : Nat) (x1 : Nat) (x2 : Int32) (x3 : Int32) (x4 : Nat) (x5 : Int32) (x6 : Int32) (x7 : Int32) (x8 : Int32) (h : jh), jv_O X M_X7_lookAround b0 jeV 59 [some (.ref (x0)), some (.ref (x1)), some (.int (x2)), some (.int (x3)), some (.ref (x4)), some (.int (x5)), some (.int (x6)), some (.int (x7)), some (.int (x8)), none, none] [] h (jlp9 (f_X7_lookAround_h59 K59) jfu x0 x1 x2 x3 x4 x5 x6 x7 x8 h) := by
  refine jlp9_ok (P := fun x0 x1 x2 x3 x4 x5 x6 x7 x8 h o => jv_O X M_X7_lookAround b0 jeV 59 [some (.ref (x0)), some (.ref (x1)), some (.int (x2)), some (.int (x3)), some (.ref (x4)), some (.int (x5)), some (.int (x6)), some (.int (x7)), some (.int (x8)), none, none] [] h o) (fun R59 hR59 => ?_) (fun _ _ _ _ _ _ _ _ _ _  => jv_none rfl) jfu
  intro x0 x1 x2 x3 x4 x5 x6 x7 x8 h
  unfold f_X7_lookAround_h59
  refine jv_iload (jv_dk t_X7_lookAround (k := 31) rfl) rfl ?_
  refine jv_bipush (v := 16) (jv_dk t_X7_lookAround (k := 32) rfl) (by decide) ?_
  refine jv_icmp_ge (tgt := 216) (jv_dk t_X7_lookAround (k := 33) rfl) rfl (fun c6 => ?_) (fun c6 => ?_)
  · refine jv_le_row (jv_le_n (jv_le_n (jv_le_n (jv_le_n (jv_le_n (jv_le_n (jv_le_n (jv_le_n (jv_le_n (jv_le_n (jv_le_n (jv_le_nil)))))))))))) ?_
    exact hK59 _ 
  · show jv_O _ _ _ _ 66 _ _ _ _
    refine jv_iload (jv_dk t_X7_lookAround (k := 34) rfl) rfl ?_
    refine jv_iload_n (jv_dk t_X7_lookAround (k := 35) rfl) rfl rfl ?_
    refine jv_icmp_eq (tgt := 210) (jv_dk t_X7_lookAround (k := 36) rfl) rfl (fun c7 => ?_) (fun c7 => ?_)
    · refine jv_iinc (v := 1) (L' := [some (.ref (x0)), some (.ref (x1)), some (.int (x2)), some (.int (x3)), some (.ref (x4)), some (.int (x5)), some (.int (x6)), some (.int (x7)), some (.int (x8 + 1)), none, none]) (jv_dk t_X7_lookAround (k := 107) rfl) rfl (by decide) rfl ?_
      refine jv_goto (tgt := 59) (jv_dk t_X7_lookAround (k := 108) rfl) rfl ?_
      exact hR59 _ _ _ _ _ _ _ _ _ _ 
    · show jv_O _ _ _ _ 72 _ _ _ _
      refine jv_aload (jv_dk t_X7_lookAround (k := 37) rfl) rfl (Or.inr ⟨_, rfl⟩) ?_
      refine jv_iload (jv_dk t_X7_lookAround (k := 38) rfl) rfl ?_
      refine jv_callV (en' := jeI) (pv := jpI) (As := [.int (x8)]) (S := []) (jv_dk t_X7_lookAround (k := 39) rfl) (fun _ => rfl) lk_X7_50 me_X5_has mv_X5_has ⟨by decide, by decide⟩ rfl rfl rfl (Nat.le_of_ble_eq_true rfl) (P_X5_has X x4 x8 h) (fun v8 h9 => ?_)
      show jv_O X M_X7_lookAround _ jeV 79 [some (.ref (x0)), some (.ref (x1)), some (.int (x2)), some (.int (x3)), some (.ref (x4)), some (.int (x5)), some (.int (x6)), some (.int (x7)), some (.int (x8)), none, none] [.int (v8)] h9 _
      refine jv_if_eq (tgt := 210) (jv_dk t_X7_lookAround (k := 40) rfl) rfl (fun c10 => ?_) (fun c10 => ?_)
      · refine jv_iinc (v := 1) (L' := [some (.ref (x0)), some (.ref (x1)), some (.int (x2)), some (.int (x3)), some (.ref (x4)), some (.int (x5)), some (.int (x6)), some (.int (x7)), some (.int (x8 + 1)), none, none]) (jv_dk t_X7_lookAround (k := 107) rfl) rfl (by decide) rfl ?_
        refine jv_goto (tgt := 59) (jv_dk t_X7_lookAround (k := 108) rfl) rfl ?_
        exact hR59 _ _ _ _ _ _ _ _ _ _ 
      · show jv_O _ _ _ _ 82 _ _ _ _
        refine jv_aload_n (jv_dk t_X7_lookAround (k := 41) rfl) rfl rfl (Or.inr ⟨_, rfl⟩) ?_
        refine jv_iload_n (jv_dk t_X7_lookAround (k := 42) rfl) rfl rfl ?_
        refine jv_iload (jv_dk t_X7_lookAround (k := 43) rfl) rfl ?_
        refine jv_callV (en' := jeI) (pv := jpI) (As := [.int (x2), .int (x8)]) (S := []) (jv_dk t_X7_lookAround (k := 44) rfl) (fun _ => rfl) lk_X7_53 me_X11_sees mv_X11_sees ⟨by decide, by decide⟩ rfl rfl rfl (Nat.le_of_ble_eq_true rfl) (P_X11_sees X x1 x2 x8 h9) (fun v11 h12 => ?_)
        show jv_O X M_X7_lookAround _ jeV 89 [some (.ref (x0)), some (.ref (x1)), some (.int (x2)), some (.int (x3)), some (.ref (x4)), some (.int (x5)), some (.int (x6)), some (.int (x7)), some (.int (x8)), none, none] [.int (v11)] h12 _
        refine jv_if_ne (tgt := 95) (jv_dk t_X7_lookAround (k := 45) rfl) rfl (fun c13 => ?_) (fun c13 => ?_)
        · refine jv_aload (jv_dk t_X7_lookAround (k := 47) rfl) rfl (Or.inr ⟨_, rfl⟩) ?_
          refine jv_gR (jv_dk t_X7_lookAround (k := 48) rfl) fl_X7_40 (fun v14 => ?_)
          refine jv_iload (jv_dk t_X7_lookAround (k := 49) rfl) rfl ?_
          refine jv_iaload (jv_dk t_X7_lookAround (k := 50) rfl) (fun v15 => ?_)
          refine jv_istore (L' := [some (.ref (x0)), some (.ref (x1)), some (.int (x2)), some (.int (x3)), some (.ref (x4)), some (.int (x5)), some (.int (x6)), some (.int (x7)), some (.int (x8)), some (.int (v15)), none]) (jv_dk t_X7_lookAround (k := 51) rfl) (Nat.le_of_ble_eq_true rfl) rfl ?_
          refine jv_iload (jv_dk t_X7_lookAround (k := 52) rfl) rfl ?_
          refine jv_iload (jv_dk t_X7_lookAround (k := 53) rfl) rfl ?_
          refine jv_icmp_eq (tgt := 144) (jv_dk t_X7_lookAround (k := 54) rfl) rfl (fun c16 => ?_) (fun c16 => ?_)
          · refine jv_le_row (jv_le_s (jv_le_s (jv_le_s (jv_le_s (jv_le_s (jv_le_s (jv_le_s (jv_le_s (jv_le_s (jv_le_n (jv_le_n (jv_le_nil)))))))))))) ?_
            exact o_f_X7_lookAround_b144 hR59 hK59 _ _ _ _ _ _ _ _ _ _ 
          · show jv_O _ _ _ _ 112 _ _ _ _
            refine jv_aload_n (jv_dk t_X7_lookAround (k := 55) rfl) rfl rfl (Or.inr ⟨_, rfl⟩) ?_
            refine jv_gR (jv_dk t_X7_lookAround (k := 56) rfl) fl_X7_57 (fun v34 => ?_)
            refine jv_iload (jv_dk t_X7_lookAround (k := 57) rfl) rfl ?_
            refine jv_iload (jv_dk t_X7_lookAround (k := 58) rfl) rfl ?_
            refine jv_iload (jv_dk t_X7_lookAround (k := 59) rfl) rfl ?_
            refine jv_iload (jv_dk t_X7_lookAround (k := 60) rfl) rfl ?_
            refine jv_callV (en' := jeI) (pv := jpI) (As := [.int (v15), .int (x5), .int (x6), .int (x7)]) (S := []) (jv_dk t_X7_lookAround (k := 61) rfl) (fun _ => rfl) lk_X7_61 me_X10_isRuled mv_X10_isRuled ⟨by decide, by decide⟩ rfl rfl rfl (Nat.le_of_ble_eq_true rfl) (P_X10_isRuled X v34 v15 x5 x6 x7 h12) (fun v35 h36 => ?_)
            show jv_O X M_X7_lookAround _ jeV 127 [some (.ref (x0)), some (.ref (x1)), some (.int (x2)), some (.int (x3)), some (.ref (x4)), some (.int (x5)), some (.int (x6)), some (.int (x7)), some (.int (x8)), some (.int (v15)), none] [.int (v35)] h36 _
            refine jv_if_eq (tgt := 144) (jv_dk t_X7_lookAround (k := 62) rfl) rfl (fun c37 => ?_) (fun c37 => ?_)
            · refine jv_le_row (jv_le_s (jv_le_s (jv_le_s (jv_le_s (jv_le_s (jv_le_s (jv_le_s (jv_le_s (jv_le_s (jv_le_n (jv_le_n (jv_le_nil)))))))))))) ?_
              exact o_f_X7_lookAround_b144 hR59 hK59 _ _ _ _ _ _ _ _ _ _ 
            · show jv_O _ _ _ _ 130 _ _ _ _
              refine jv_aload_n (jv_dk t_X7_lookAround (k := 63) rfl) rfl rfl (Or.inr ⟨_, rfl⟩) ?_
              refine jv_iload (jv_dk t_X7_lookAround (k := 64) rfl) rfl ?_
              refine jv_aload_n (jv_dk t_X7_lookAround (k := 65) rfl) rfl rfl (Or.inr ⟨_, rfl⟩) ?_
              refine jv_gR (jv_dk t_X7_lookAround (k := 66) rfl) fl_X7_11 (fun v38 => ?_)
              refine jv_iload_n (jv_dk t_X7_lookAround (k := 67) rfl) rfl rfl ?_
              refine jv_iaload (jv_dk t_X7_lookAround (k := 68) rfl) (fun v39 => ?_)
              refine jv_iconst (v := 1) (jv_dk t_X7_lookAround (k := 69) rfl) (by decide) ?_
              refine jv_iadd (jv_dk t_X7_lookAround (k := 70) rfl) ?_
              refine jv_callV (en' := jeV) (pv := jpV) (As := [.int (v15), .int (v39 + 1)]) (S := []) (jv_dk t_X7_lookAround (k := 71) rfl) (fun _ => rfl) (Or.inl lk_X7_67) me_X7_reach mv_X7_reach ⟨by decide, by decide⟩ rfl rfl rfl (Nat.le_of_ble_eq_true rfl) (P_X7_reach X x0 v15 (v39 + 1) h36) (fun _ h40 => ?_)
              show jv_O X M_X7_lookAround _ jeV 144 [some (.ref (x0)), some (.ref (x1)), some (.int (x2)), some (.int (x3)), some (.ref (x4)), some (.int (x5)), some (.int (x6)), some (.int (x7)), some (.int (x8)), some (.int (v15)), none] [] h40 _
              refine jv_le_row (jv_le_s (jv_le_s (jv_le_s (jv_le_s (jv_le_s (jv_le_s (jv_le_s (jv_le_s (jv_le_s (jv_le_n (jv_le_n (jv_le_nil)))))))))))) ?_
              exact o_f_X7_lookAround_b144 hR59 hK59 _ _ _ _ _ _ _ _ _ _ 
        · show jv_O _ _ _ _ 92 _ _ _ _
          refine jv_goto (tgt := 210) (jv_dk t_X7_lookAround (k := 46) rfl) rfl ?_
          refine jv_iinc (v := 1) (L' := [some (.ref (x0)), some (.ref (x1)), some (.int (x2)), some (.int (x3)), some (.ref (x4)), some (.int (x5)), some (.int (x6)), some (.int (x7)), some (.int (x8 + 1)), none, none]) (jv_dk t_X7_lookAround (k := 107) rfl) rfl (by decide) rfl ?_
          refine jv_goto (tgt := 59) (jv_dk t_X7_lookAround (k := 108) rfl) rfl ?_
          exact hR59 _ _ _ _ _ _ _ _ _ _ 
def f_X7_lookAround_b45 (x0 : Nat) (x1 : Nat) (x2 : Int32) (x3 : Int32) (x4 : Nat) (x5 : Int32) (s0 : Int32) (h : jh) : Option (Unit × jh) :=
  gR h x4 3 5 fun v4 =>
  aI h v4 x2 fun v5 =>
  jlp9 (f_X7_lookAround_h59 (fun  h41 =>
  some ((), h41))) jfu x0 x1 x2 x3 x4 x5 s0 v5 0 h
theorem o_f_X7_lookAround_b45 {X : jx} {b0 : Nat × Nat} (x0 : Nat) (x1 : Nat) (x2 : Int32) (x3 : Int32) (x4 : Nat) (x5 : Int32) (s0 : Int32) (h : jh) : jv_O X M_X7_lookAround b0 jeV 45 [some (.ref (x0)), some (.ref (x1)), some (.int (x2)), some (.int (x3)), some (.ref (x4)), some (.int (x5)), none, none, none, none, none] [.int (s0)] h (f_X7_lookAround_b45 x0 x1 x2 x3 x4 x5 s0 h) := by
  unfold f_X7_lookAround_b45
  refine jv_istore (L' := [some (.ref (x0)), some (.ref (x1)), some (.int (x2)), some (.int (x3)), some (.ref (x4)), some (.int (x5)), some (.int (s0)), none, none, none, none]) (jv_dk t_X7_lookAround (k := 23) rfl) (Nat.le_of_ble_eq_true rfl) rfl ?_
  refine jv_aload (jv_dk t_X7_lookAround (k := 24) rfl) rfl (Or.inr ⟨_, rfl⟩) ?_
  refine jv_gR (jv_dk t_X7_lookAround (k := 25) rfl) fl_X7_47 (fun v4 => ?_)
  refine jv_iload_n (jv_dk t_X7_lookAround (k := 26) rfl) rfl rfl ?_
  refine jv_iaload (jv_dk t_X7_lookAround (k := 27) rfl) (fun v5 => ?_)
  refine jv_istore (L' := [some (.ref (x0)), some (.ref (x1)), some (.int (x2)), some (.int (x3)), some (.ref (x4)), some (.int (x5)), some (.int (s0)), some (.int (v5)), none, none, none]) (jv_dk t_X7_lookAround (k := 28) rfl) (Nat.le_of_ble_eq_true rfl) rfl ?_
  refine jv_iconst (v := 0) (jv_dk t_X7_lookAround (k := 29) rfl) (by decide) ?_
  refine jv_istore (L' := [some (.ref (x0)), some (.ref (x1)), some (.int (x2)), some (.int (x3)), some (.ref (x4)), some (.int (x5)), some (.int (s0)), some (.int (v5)), some (.int (0)), none, none]) (jv_dk t_X7_lookAround (k := 30) rfl) (Nat.le_of_ble_eq_true rfl) rfl ?_
  refine o_f_X7_lookAround_h59 (fun  h41 => ?_) _ _ _ _ _ _ _ _ _ _ 
  show jv_O X M_X7_lookAround _ jeV 216 [none, none, none, none, none, none, none, none, none, none, none] [] h41 _
  exact jv_vret (jv_dk t_X7_lookAround (k := 109) rfl) rfl rfl
def f_X7_lookAround_b23 (x0 : Nat) (x1 : Nat) (x2 : Int32) (x3 : Int32) (x4 : Nat) (s0 : Int32) (h : jh) : Option (Unit × jh) :=
  (if ¬ x3 = 8 then
  f_X7_lookAround_b45 x0 x1 x2 x3 x4 s0 1 h
  else
  cV h x4 3 (f_X5_hasPower x4 x2 h) fun v42 h43 =>
  (if v42 = 0 then
  f_X7_lookAround_b45 x0 x1 x2 x3 x4 s0 0 h43
  else
  f_X7_lookAround_b45 x0 x1 x2 x3 x4 s0 1 h43))
theorem o_f_X7_lookAround_b23 {X : jx} {b0 : Nat × Nat} (x0 : Nat) (x1 : Nat) (x2 : Int32) (x3 : Int32) (x4 : Nat) (s0 : Int32) (h : jh) : jv_O X M_X7_lookAround b0 jeV 23 [some (.ref (x0)), some (.ref (x1)), some (.int (x2)), some (.int (x3)), some (.ref (x4)), none, none, none, none, none, none] [.int (s0)] h (f_X7_lookAround_b23 x0 x1 x2 x3 x4 s0 h) := by
  unfold f_X7_lookAround_b23
  refine jv_istore (L' := [some (.ref (x0)), some (.ref (x1)), some (.int (x2)), some (.int (x3)), some (.ref (x4)), some (.int (s0)), none, none, none, none, none]) (jv_dk t_X7_lookAround (k := 12) rfl) (Nat.le_of_ble_eq_true rfl) rfl ?_
  refine jv_iload_n (jv_dk t_X7_lookAround (k := 13) rfl) rfl rfl ?_
  refine jv_bipush (v := 8) (jv_dk t_X7_lookAround (k := 14) rfl) (by decide) ?_
  refine jv_icmp_ne (tgt := 40) (jv_dk t_X7_lookAround (k := 15) rfl) rfl (fun c3 => ?_) (fun c3 => ?_)
  · refine jv_iconst (v := 1) (jv_dk t_X7_lookAround (k := 20) rfl) (by decide) ?_
    refine jv_goto (tgt := 45) (jv_dk t_X7_lookAround (k := 21) rfl) rfl ?_
    exact o_f_X7_lookAround_b45 _ _ _ _ _ _ _ _ 
  · show jv_O _ _ _ _ 31 _ _ _ _
    refine jv_aload (jv_dk t_X7_lookAround (k := 16) rfl) rfl (Or.inr ⟨_, rfl⟩) ?_
    refine jv_iload_n (jv_dk t_X7_lookAround (k := 17) rfl) rfl rfl ?_
    refine jv_callV (en' := jeI) (pv := jpI) (As := [.int (x2)]) (S := []) (jv_dk t_X7_lookAround (k := 18) rfl) (fun _ => rfl) lk_X7_43 me_X5_hasPower mv_X5_hasPower ⟨by decide, by decide⟩ rfl rfl rfl (Nat.le_of_ble_eq_true rfl) (P_X5_hasPower X x4 x2 h) (fun v42 h43 => ?_)
    show jv_O X M_X7_lookAround _ jeV 37 [some (.ref (x0)), some (.ref (x1)), some (.int (x2)), some (.int (x3)), some (.ref (x4)), some (.int (s0)), none, none, none, none, none] [.int (v42)] h43 _
    refine jv_if_eq (tgt := 44) (jv_dk t_X7_lookAround (k := 19) rfl) rfl (fun c44 => ?_) (fun c44 => ?_)
    · refine jv_iconst (v := 0) (jv_dk t_X7_lookAround (k := 22) rfl) (by decide) ?_
      exact o_f_X7_lookAround_b45 _ _ _ _ _ _ _ _ 
    · show jv_O _ _ _ _ 40 _ _ _ _
      refine jv_iconst (v := 1) (jv_dk t_X7_lookAround (k := 20) rfl) (by decide) ?_
      refine jv_goto (tgt := 45) (jv_dk t_X7_lookAround (k := 21) rfl) rfl ?_
      exact o_f_X7_lookAround_b45 _ _ _ _ _ _ _ _ 
def f_X7_lookAround (a0 : Nat) (a1 : Nat) (a2 : Int32) (a3 : Int32) (h : jh) : Option (Unit × jh) :=
  gR h a1 9 0 fun v1 =>
  (if ¬ a3 = 8 then
  f_X7_lookAround_b23 a0 a1 a2 a3 v1 a3 h
  else
  gR h v1 3 2 fun v45 =>
  aI h v45 a2 fun v46 =>
  f_X7_lookAround_b23 a0 a1 a2 a3 v1 v46 h)
theorem P_X7_lookAround (X : jx) (a0 : Nat) (a1 : Nat) (a2 : Int32) (a3 : Int32) (h : jh) : jv_P X M_X7_lookAround jeV [.ref (a0), .ref (a1), .int (a2), .int (a3)] h (f_X7_lookAround a0 a1 a2 a3 h) := by
  refine jv_P.of (by decide) rfl (by simp [Value.category]) (Nat.le_of_ble_eq_true rfl) ?_
  show jv_O X M_X7_lookAround (h.1, h.2.1) jeV 0 [some (.ref (a0)), some (.ref (a1)), some (.int (a2)), some (.int (a3)), none, none, none, none, none, none, none] [] h (f_X7_lookAround a0 a1 a2 a3 h)
  unfold f_X7_lookAround
  refine jv_aload_n (jv_dk t_X7_lookAround (k := 0) rfl) rfl rfl (Or.inr ⟨_, rfl⟩) ?_
  refine jv_gR (jv_dk t_X7_lookAround (k := 1) rfl) fl_X7_25 (fun v1 => ?_)
  refine jv_astore (L' := [some (.ref (a0)), some (.ref (a1)), some (.int (a2)), some (.int (a3)), some (.ref (v1)), none, none, none, none, none, none]) (jv_dk t_X7_lookAround (k := 2) rfl) (Nat.le_of_ble_eq_true rfl) (Or.inr ⟨_, rfl⟩) rfl ?_
  refine jv_iload_n (jv_dk t_X7_lookAround (k := 3) rfl) rfl rfl ?_
  refine jv_bipush (v := 8) (jv_dk t_X7_lookAround (k := 4) rfl) (by decide) ?_
  refine jv_icmp_ne (tgt := 22) (jv_dk t_X7_lookAround (k := 5) rfl) rfl (fun c2 => ?_) (fun c2 => ?_)
  · refine jv_iload_n (jv_dk t_X7_lookAround (k := 11) rfl) rfl rfl ?_
    exact o_f_X7_lookAround_b23 _ _ _ _ _ _ _ 
  · show jv_O _ _ _ _ 12 _ _ _ _
    refine jv_aload (jv_dk t_X7_lookAround (k := 6) rfl) rfl (Or.inr ⟨_, rfl⟩) ?_
    refine jv_gR (jv_dk t_X7_lookAround (k := 7) rfl) fl_X7_40 (fun v45 => ?_)
    refine jv_iload_n (jv_dk t_X7_lookAround (k := 8) rfl) rfl rfl ?_
    refine jv_iaload (jv_dk t_X7_lookAround (k := 9) rfl) (fun v46 => ?_)
    refine jv_goto (tgt := 23) (jv_dk t_X7_lookAround (k := 10) rfl) rfl ?_
    exact o_f_X7_lookAround_b23 _ _ _ _ _ _ _ 
def t0_X7_walk : List (Nat × Instr × Nat) := [(0, .iconst 0, 1), (1, .istore_n 3, 1), (2, .iload_n 3, 1), (3, .bipush 9, 2), (5, .if_icmp .ge 16, 3), (8, .aload_n 0, 1), (9, .getfield 11, 3), (12, .iload_n 3, 1), (13, .iconst (-1), 1), (14, .iastore, 1), (15, .iinc 3 1, 3), (18, .goto (-16), 3), (21, .iconst 0, 1), (22, .istore_n 3, 1), (23, .iload_n 3, 1), (24, .bipush 8, 2), (26, .if_icmp .ge 16, 3), (29, .aload_n 0, 1), (30, .getfield 18, 3), (33, .iload_n 3, 1), (34, .iconst (-1), 1), (35, .iastore, 1), (36, .iinc 3 1, 3), (39, .goto (-16), 3), (42, .aload_n 0, 1), (43, .getfield 18, 3), (46, .aload_n 1, 1), (47, .getfield 25, 3), (50, .getfield 31, 3), (53, .iload_n 2, 1), (54, .iaload, 1), (55, .iconst 0, 1), (56, .iastore, 1), (57, .aload_n 0, 1), (58, .getfield 11, 3), (61, .bipush 8, 2), (63, .iconst 0, 1), (64, .iastore, 1), (65, .aload_n 0, 1), (66, .getfield 15, 3), (69, .iconst 0, 1), (70, .bipush 8, 2), (72, .iastore, 1), (73, .aload_n 0, 1), (74, .iconst 1, 1), (75, .putfield 21, 3), (78, .iconst 0, 1), (79, .istore_n 3, 1), (80, .iload_n 3, 1), (81, .aload_n 0, 1), (82, .getfield 21, 3), (85, .if_icmp .ge 27, 3), (88, .iload_n 3, 1), (89, .bipush 9, 2), (91, .if_icmp .ge 21, 3), (94, .aload_n 0, 1), (95, .aload_n 1, 1), (96, .iload_n 2, 1), (97, .aload_n 0, 1), (98, .getfield 15, 3), (101, .iload_n 3, 1), (102, .iaload, 1), (103, .invokevirtual 36, 3), (106, .iinc 3 1, 3), (109, .goto (-29), 3), (112, .return_, 1)]
theorem t_X7_walk : jv_dec cX7_walk t0_X7_walk = true := by decide +kernel
def M_X7_walk : jm := (yX7_walk, cX7_walk, 4, none, 3, 78, [])
theorem lk_X7_36 : Cond.methodLink RX7 36 M_X7_lookAround.1 ∈ lw_tbl := (jv_at 1270 (by decide +kernel))
set_option maxRecDepth 20000 in
theorem me_X7_lookAround : jv_me M_X7_lookAround 3 := ⟨(jv_in5 (List.mem_of_getElem? (i := 153) rfl)), (jv_at 170 (by decide +kernel)), ⟨by decide, by decide⟩, by decide +kernel⟩
theorem mv_X7_lookAround : jv_mv M_X7_lookAround := ⟨(jv_at 1272 (by decide +kernel)), (jv_at 87 (by decide +kernel))⟩
def f_X7_walk_h2 (K2 : Nat → Nat → Int32 → jh → Option (Unit × jh)) (R2 : Nat → Nat → Int32 → Int32 → jh → Option (Unit × jh)) (x0 : Nat) (x1 : Nat) (x2 : Int32) (x3 : Int32) (h : jh) : Option (Unit × jh) :=
  (if 9 ≤ x3 then
  K2 x0 x1 x2 h
  else
  gR h x0 5 0 fun v2 =>
  sI h v2 x3 (-1) fun h3 =>
  R2 x0 x1 x2 (x3 + 1) h3)
theorem o_f_X7_walk_h2 {X : jx} {b0 : Nat × Nat} {K2 : Nat → Nat → Int32 → jh → Option (Unit × jh)} (hK2 : ∀ (x0 : Nat) (x1 : Nat) (x2 : Int32) (h : jh), jv_O X M_X7_walk b0 jeV 21 [some (.ref (x0)), some (.ref (x1)), some (.int (x2)), none] [] h (K2 x0 x1 x2 h)) : ∀ (x0 : Nat) (x1 : Nat) (x2 : Int32) (x3 : Int32) (h : jh), jv_O X M_X7_walk b0 jeV 2 [some (.ref (x0)), some (.ref (x1)), some (.int (x2)), some (.int (x3))] [] h (jlp4 (f_X7_walk_h2 K2) jfu x0 x1 x2 x3 h) := by
  refine jlp4_ok (P := fun x0 x1 x2 x3 h o => jv_O X M_X7_walk b0 jeV 2 [some (.ref (x0)), some (.ref (x1)), some (.int (x2)), some (.int (x3))] [] h o) (fun R2 hR2 => ?_) (fun _ _ _ _ _  => jv_none rfl) jfu
  intro x0 x1 x2 x3 h
  unfold f_X7_walk_h2
  refine jv_iload_n (jv_dk t_X7_walk (k := 2) rfl) rfl rfl ?_
  refine jv_bipush (v := 9) (jv_dk t_X7_walk (k := 3) rfl) (by decide) ?_
  refine jv_icmp_ge (tgt := 21) (jv_dk t_X7_walk (k := 4) rfl) rfl (fun c1 => ?_) (fun c1 => ?_)
  · refine jv_le_row (jv_le_s (jv_le_s (jv_le_s (jv_le_n (jv_le_nil))))) ?_
    exact hK2 _ _ _ _ 
  · show jv_O _ _ _ _ 8 _ _ _ _
    refine jv_aload_n (jv_dk t_X7_walk (k := 5) rfl) rfl rfl (Or.inr ⟨_, rfl⟩) ?_
    refine jv_gR (jv_dk t_X7_walk (k := 6) rfl) fl_X7_11 (fun v2 => ?_)
    refine jv_iload_n (jv_dk t_X7_walk (k := 7) rfl) rfl rfl ?_
    refine jv_iconst (v := (-1)) (jv_dk t_X7_walk (k := 8) rfl) (by decide) ?_
    refine jv_iastore (jv_dk t_X7_walk (k := 9) rfl) (fun h3 => ?_)
    refine jv_iinc (v := 1) (L' := [some (.ref (x0)), some (.ref (x1)), some (.int (x2)), some (.int (x3 + 1))]) (jv_dk t_X7_walk (k := 10) rfl) rfl (by decide) rfl ?_
    refine jv_goto (tgt := 2) (jv_dk t_X7_walk (k := 11) rfl) rfl ?_
    exact hR2 _ _ _ _ _ 
def f_X7_walk_h23 (K23 : Nat → Nat → Int32 → jh → Option (Unit × jh)) (R23 : Nat → Nat → Int32 → Int32 → jh → Option (Unit × jh)) (x0 : Nat) (x1 : Nat) (x2 : Int32) (x3 : Int32) (h : jh) : Option (Unit × jh) :=
  (if 8 ≤ x3 then
  K23 x0 x1 x2 h
  else
  gR h x0 5 2 fun v9 =>
  sI h v9 x3 (-1) fun h10 =>
  R23 x0 x1 x2 (x3 + 1) h10)
theorem o_f_X7_walk_h23 {X : jx} {b0 : Nat × Nat} {K23 : Nat → Nat → Int32 → jh → Option (Unit × jh)} (hK23 : ∀ (x0 : Nat) (x1 : Nat) (x2 : Int32) (h : jh), jv_O X M_X7_walk b0 jeV 42 [some (.ref (x0)), some (.ref (x1)), some (.int (x2)), none] [] h (K23 x0 x1 x2 h)) : ∀ (x0 : Nat) (x1 : Nat) (x2 : Int32) (x3 : Int32) (h : jh), jv_O X M_X7_walk b0 jeV 23 [some (.ref (x0)), some (.ref (x1)), some (.int (x2)), some (.int (x3))] [] h (jlp4 (f_X7_walk_h23 K23) jfu x0 x1 x2 x3 h) := by
  refine jlp4_ok (P := fun x0 x1 x2 x3 h o => jv_O X M_X7_walk b0 jeV 23 [some (.ref (x0)), some (.ref (x1)), some (.int (x2)), some (.int (x3))] [] h o) (fun R23 hR23 => ?_) (fun _ _ _ _ _  => jv_none rfl) jfu
  intro x0 x1 x2 x3 h
  unfold f_X7_walk_h23
  refine jv_iload_n (jv_dk t_X7_walk (k := 14) rfl) rfl rfl ?_
  refine jv_bipush (v := 8) (jv_dk t_X7_walk (k := 15) rfl) (by decide) ?_
  refine jv_icmp_ge (tgt := 42) (jv_dk t_X7_walk (k := 16) rfl) rfl (fun c8 => ?_) (fun c8 => ?_)
  · refine jv_le_row (jv_le_s (jv_le_s (jv_le_s (jv_le_n (jv_le_nil))))) ?_
    exact hK23 _ _ _ _ 
  · show jv_O _ _ _ _ 29 _ _ _ _
    refine jv_aload_n (jv_dk t_X7_walk (k := 17) rfl) rfl rfl (Or.inr ⟨_, rfl⟩) ?_
    refine jv_gR (jv_dk t_X7_walk (k := 18) rfl) fl_X7_18 (fun v9 => ?_)
    refine jv_iload_n (jv_dk t_X7_walk (k := 19) rfl) rfl rfl ?_
    refine jv_iconst (v := (-1)) (jv_dk t_X7_walk (k := 20) rfl) (by decide) ?_
    refine jv_iastore (jv_dk t_X7_walk (k := 21) rfl) (fun h10 => ?_)
    refine jv_iinc (v := 1) (L' := [some (.ref (x0)), some (.ref (x1)), some (.int (x2)), some (.int (x3 + 1))]) (jv_dk t_X7_walk (k := 22) rfl) rfl (by decide) rfl ?_
    refine jv_goto (tgt := 23) (jv_dk t_X7_walk (k := 23) rfl) rfl ?_
    exact hR23 _ _ _ _ _ 
def f_X7_walk_h80 (K80 : jh → Option (Unit × jh)) (R80 : Nat → Nat → Int32 → Int32 → jh → Option (Unit × jh)) (x0 : Nat) (x1 : Nat) (x2 : Int32) (x3 : Int32) (h : jh) : Option (Unit × jh) :=
  gI h x0 5 3 fun v25 =>
  (if v25 ≤ x3 then
  K80  h
  else
  (if 9 ≤ x3 then
  K80  h
  else
  gR h x0 5 1 fun v28 =>
  aI h v28 x3 fun v29 =>
  cV h x0 5 (f_X7_lookAround x0 x1 x2 v29 h) fun _ h30 =>
  R80 x0 x1 x2 (x3 + 1) h30))
theorem o_f_X7_walk_h80 {X : jx} {b0 : Nat × Nat} {K80 : jh → Option (Unit × jh)} (hK80 : ∀  (h : jh), jv_O X M_X7_walk b0 jeV 112 [none, none, none, none] [] h (K80  h)) : ∀ (x0 : Nat) (x1 : Nat) (x2 : Int32) (x3 : Int32) (h : jh), jv_O X M_X7_walk b0 jeV 80 [some (.ref (x0)), some (.ref (x1)), some (.int (x2)), some (.int (x3))] [] h (jlp4 (f_X7_walk_h80 K80) jfu x0 x1 x2 x3 h) := by
  refine jlp4_ok (P := fun x0 x1 x2 x3 h o => jv_O X M_X7_walk b0 jeV 80 [some (.ref (x0)), some (.ref (x1)), some (.int (x2)), some (.int (x3))] [] h o) (fun R80 hR80 => ?_) (fun _ _ _ _ _  => jv_none rfl) jfu
  intro x0 x1 x2 x3 h
  unfold f_X7_walk_h80
  refine jv_iload_n (jv_dk t_X7_walk (k := 48) rfl) rfl rfl ?_
  refine jv_aload_n (jv_dk t_X7_walk (k := 49) rfl) rfl rfl (Or.inr ⟨_, rfl⟩) ?_
  refine jv_gI (jv_dk t_X7_walk (k := 50) rfl) fl_X7_21 (fun v25 => ?_)
  refine jv_icmp_ge (tgt := 112) (jv_dk t_X7_walk (k := 51) rfl) rfl (fun c26 => ?_) (fun c26 => ?_)
  · refine jv_le_row (jv_le_n (jv_le_n (jv_le_n (jv_le_n (jv_le_nil))))) ?_
    exact hK80 _ 
  · show jv_O _ _ _ _ 88 _ _ _ _
    refine jv_iload_n (jv_dk t_X7_walk (k := 52) rfl) rfl rfl ?_
    refine jv_bipush (v := 9) (jv_dk t_X7_walk (k := 53) rfl) (by decide) ?_
    refine jv_icmp_ge (tgt := 112) (jv_dk t_X7_walk (k := 54) rfl) rfl (fun c27 => ?_) (fun c27 => ?_)
    · refine jv_le_row (jv_le_n (jv_le_n (jv_le_n (jv_le_n (jv_le_nil))))) ?_
      exact hK80 _ 
    · show jv_O _ _ _ _ 94 _ _ _ _
      refine jv_aload_n (jv_dk t_X7_walk (k := 55) rfl) rfl rfl (Or.inr ⟨_, rfl⟩) ?_
      refine jv_aload_n (jv_dk t_X7_walk (k := 56) rfl) rfl rfl (Or.inr ⟨_, rfl⟩) ?_
      refine jv_iload_n (jv_dk t_X7_walk (k := 57) rfl) rfl rfl ?_
      refine jv_aload_n (jv_dk t_X7_walk (k := 58) rfl) rfl rfl (Or.inr ⟨_, rfl⟩) ?_
      refine jv_gR (jv_dk t_X7_walk (k := 59) rfl) fl_X7_15 (fun v28 => ?_)
      refine jv_iload_n (jv_dk t_X7_walk (k := 60) rfl) rfl rfl ?_
      refine jv_iaload (jv_dk t_X7_walk (k := 61) rfl) (fun v29 => ?_)
      refine jv_callV (en' := jeV) (pv := jpV) (As := [.ref (x1), .int (x2), .int (v29)]) (S := []) (jv_dk t_X7_walk (k := 62) rfl) (fun _ => rfl) (Or.inl lk_X7_36) me_X7_lookAround mv_X7_lookAround ⟨by decide, by decide⟩ rfl rfl rfl (Nat.le_of_ble_eq_true rfl) (P_X7_lookAround X x0 x1 x2 v29 h) (fun _ h30 => ?_)
      show jv_O X M_X7_walk _ jeV 106 [some (.ref (x0)), some (.ref (x1)), some (.int (x2)), some (.int (x3))] [] h30 _
      refine jv_iinc (v := 1) (L' := [some (.ref (x0)), some (.ref (x1)), some (.int (x2)), some (.int (x3 + 1))]) (jv_dk t_X7_walk (k := 63) rfl) rfl (by decide) rfl ?_
      refine jv_goto (tgt := 80) (jv_dk t_X7_walk (k := 64) rfl) rfl ?_
      exact hR80 _ _ _ _ _ 
def f_X7_walk (a0 : Nat) (a1 : Nat) (a2 : Int32) (h : jh) : Option (Unit × jh) :=
  jlp4 (f_X7_walk_h2 (fun y5 y6 y7 h4 =>
  jlp4 (f_X7_walk_h23 (fun y12 y13 y14 h11 =>
  gR h11 y12 5 2 fun v15 =>
  gR h11 y13 9 0 fun v16 =>
  gR h11 v16 3 3 fun v17 =>
  aI h11 v17 y14 fun v18 =>
  sI h11 v15 v18 0 fun h19 =>
  gR h19 y12 5 0 fun v20 =>
  sI h19 v20 8 0 fun h21 =>
  gR h21 y12 5 1 fun v22 =>
  sI h21 v22 0 8 fun h23 =>
  pV h23 y12 5 3 (.int (1)) fun h24 =>
  jlp4 (f_X7_walk_h80 (fun  h31 =>
  some ((), h31))) jfu y12 y13 y14 0 h24)) jfu y5 y6 y7 0 h4)) jfu a0 a1 a2 0 h
theorem P_X7_walk (X : jx) (a0 : Nat) (a1 : Nat) (a2 : Int32) (h : jh) : jv_P X M_X7_walk jeV [.ref (a0), .ref (a1), .int (a2)] h (f_X7_walk a0 a1 a2 h) := by
  refine jv_P.of (by decide) rfl (by simp [Value.category]) (Nat.le_of_ble_eq_true rfl) ?_
  show jv_O X M_X7_walk (h.1, h.2.1) jeV 0 [some (.ref (a0)), some (.ref (a1)), some (.int (a2)), none] [] h (f_X7_walk a0 a1 a2 h)
  unfold f_X7_walk
  refine jv_iconst (v := 0) (jv_dk t_X7_walk (k := 0) rfl) (by decide) ?_
  refine jv_istore_n (L' := [some (.ref (a0)), some (.ref (a1)), some (.int (a2)), some (.int (0))]) (jv_dk t_X7_walk (k := 1) rfl) rfl (Nat.le_of_ble_eq_true rfl) rfl ?_
  refine o_f_X7_walk_h2 (fun y5 y6 y7 h4 => ?_) _ _ _ _ _ 
  show jv_O X M_X7_walk _ jeV 21 [some (.ref (y5)), some (.ref (y6)), some (.int (y7)), none] [] h4 _
  refine jv_iconst (v := 0) (jv_dk t_X7_walk (k := 12) rfl) (by decide) ?_
  refine jv_istore_n (L' := [some (.ref (y5)), some (.ref (y6)), some (.int (y7)), some (.int (0))]) (jv_dk t_X7_walk (k := 13) rfl) rfl (Nat.le_of_ble_eq_true rfl) rfl ?_
  refine o_f_X7_walk_h23 (fun y12 y13 y14 h11 => ?_) _ _ _ _ _ 
  show jv_O X M_X7_walk _ jeV 42 [some (.ref (y12)), some (.ref (y13)), some (.int (y14)), none] [] h11 _
  refine jv_aload_n (jv_dk t_X7_walk (k := 24) rfl) rfl rfl (Or.inr ⟨_, rfl⟩) ?_
  refine jv_gR (jv_dk t_X7_walk (k := 25) rfl) fl_X7_18 (fun v15 => ?_)
  refine jv_aload_n (jv_dk t_X7_walk (k := 26) rfl) rfl rfl (Or.inr ⟨_, rfl⟩) ?_
  refine jv_gR (jv_dk t_X7_walk (k := 27) rfl) fl_X7_25 (fun v16 => ?_)
  refine jv_gR (jv_dk t_X7_walk (k := 28) rfl) fl_X7_31 (fun v17 => ?_)
  refine jv_iload_n (jv_dk t_X7_walk (k := 29) rfl) rfl rfl ?_
  refine jv_iaload (jv_dk t_X7_walk (k := 30) rfl) (fun v18 => ?_)
  refine jv_iconst (v := 0) (jv_dk t_X7_walk (k := 31) rfl) (by decide) ?_
  refine jv_iastore (jv_dk t_X7_walk (k := 32) rfl) (fun h19 => ?_)
  refine jv_aload_n (jv_dk t_X7_walk (k := 33) rfl) rfl rfl (Or.inr ⟨_, rfl⟩) ?_
  refine jv_gR (jv_dk t_X7_walk (k := 34) rfl) fl_X7_11 (fun v20 => ?_)
  refine jv_bipush (v := 8) (jv_dk t_X7_walk (k := 35) rfl) (by decide) ?_
  refine jv_iconst (v := 0) (jv_dk t_X7_walk (k := 36) rfl) (by decide) ?_
  refine jv_iastore (jv_dk t_X7_walk (k := 37) rfl) (fun h21 => ?_)
  refine jv_aload_n (jv_dk t_X7_walk (k := 38) rfl) rfl rfl (Or.inr ⟨_, rfl⟩) ?_
  refine jv_gR (jv_dk t_X7_walk (k := 39) rfl) fl_X7_15 (fun v22 => ?_)
  refine jv_iconst (v := 0) (jv_dk t_X7_walk (k := 40) rfl) (by decide) ?_
  refine jv_bipush (v := 8) (jv_dk t_X7_walk (k := 41) rfl) (by decide) ?_
  refine jv_iastore (jv_dk t_X7_walk (k := 42) rfl) (fun h23 => ?_)
  refine jv_aload_n (jv_dk t_X7_walk (k := 43) rfl) rfl rfl (Or.inr ⟨_, rfl⟩) ?_
  refine jv_iconst (v := 1) (jv_dk t_X7_walk (k := 44) rfl) (by decide) ?_
  refine jv_pV (jv_dk t_X7_walk (k := 45) rfl) fl_X7_21 kX7 (Or.inl rfl) rfl rfl rfl (fun h24 => ?_)
  refine jv_iconst (v := 0) (jv_dk t_X7_walk (k := 46) rfl) (by decide) ?_
  refine jv_istore_n (L' := [some (.ref (y12)), some (.ref (y13)), some (.int (y14)), some (.int (0))]) (jv_dk t_X7_walk (k := 47) rfl) rfl (Nat.le_of_ble_eq_true rfl) rfl ?_
  refine o_f_X7_walk_h80 (fun  h31 => ?_) _ _ _ _ _ 
  show jv_O X M_X7_walk _ jeV 112 [none, none, none, none] [] h31 _
  exact jv_vret (jv_dk t_X7_walk (k := 65) rfl) rfl rfl
def t0_X10_init : List (Nat × Instr × Nat) := [(0, .aload_n 0, 1), (1, .invokespecial 3, 3), (4, .aload_n 0, 1), (5, .new 9, 3), (8, .dup, 1), (9, .invokespecial 11, 3), (12, .putfield 12, 3), (15, .aload_n 0, 1), (16, .bipush 8, 2), (18, .newarray .int, 2), (20, .putfield 18, 3), (23, .aload_n 0, 1), (24, .bipush 8, 2), (26, .newarray .int, 2), (28, .putfield 22, 3), (31, .aload_n 0, 1), (32, .bipush 24, 2), (34, .newarray .int, 2), (36, .putfield 25, 3), (39, .aload_n 0, 1), (40, .bipush 24, 2), (42, .newarray .int, 2), (44, .putfield 28, 3), (47, .aload_n 0, 1), (48, .bipush 24, 2), (50, .newarray .int, 2), (52, .putfield 31, 3), (55, .return_, 1)]
theorem t_X10_init : jv_dec cX10_init t0_X10_init = true := by decide +kernel
def M_X10_init : jm := (yX10_init, cX10_init, 1, none, 2, 40, [])
theorem oi_X10_3 : Cond.methodLink RX10 3 Lib.objectInit ∈ lw_tbl := (jv_at 308 (by decide +kernel))
theorem ck_X10_9 : Cond.classLink RX10 9 RX9 ∈ lw_tbl := (jv_at 309 (by decide +kernel))
theorem lk_X10_11 : jv_lk RX10 11 M_X9_init := Or.inr ⟨"SpaceWarden", (jv_at 310 (by decide +kernel))⟩
theorem ff_X10_12 : Cond.fieldLink RX10 12 (TX10 0).1 (TX10 0).2.1 (TX10 0).2.2.1 ∈ lw_tbl := (jv_at 311 (by decide +kernel))
theorem ff_X10_18 : Cond.fieldLink RX10 18 (TX10 1).1 (TX10 1).2.1 (TX10 1).2.2.1 ∈ lw_tbl := (jv_at 314 (by decide +kernel))
theorem ff_X10_22 : Cond.fieldLink RX10 22 (TX10 2).1 (TX10 2).2.1 (TX10 2).2.2.1 ∈ lw_tbl := (jv_at 316 (by decide +kernel))
theorem ff_X10_25 : Cond.fieldLink RX10 25 (TX10 3).1 (TX10 3).2.1 (TX10 3).2.2.1 ∈ lw_tbl := (jv_at 319 (by decide +kernel))
theorem ff_X10_28 : Cond.fieldLink RX10 28 (TX10 4).1 (TX10 4).2.1 (TX10 4).2.2.1 ∈ lw_tbl := (jv_at 321 (by decide +kernel))
theorem ff_X10_31 : Cond.fieldLink RX10 31 (TX10 5).1 (TX10 5).2.1 (TX10 5).2.2.1 ∈ lw_tbl := (jv_at 323 (by decide +kernel))
def f_X10_init (a0 : Nat) (h : jh) : Option (Unit × jh) :=
  nO h 7 2 [.null, .int 0] fun q1 h2 =>
  bd (f_X9_init q1 h2) fun _ h3 =>
  pV h3 a0 8 0 (.ref (q1)) fun h4 =>
  nI4 h4 8 fun q5 h6 =>
  pV h6 a0 8 1 (.ref (q5)) fun h7 =>
  nI4 h7 8 fun q8 h9 =>
  pV h9 a0 8 2 (.ref (q8)) fun h10 =>
  nI4 h10 24 fun q11 h12 =>
  pV h12 a0 8 3 (.ref (q11)) fun h13 =>
  nI4 h13 24 fun q14 h15 =>
  pV h15 a0 8 4 (.ref (q14)) fun h16 =>
  nI4 h16 24 fun q17 h18 =>
  pV h18 a0 8 5 (.ref (q17)) fun h19 =>
  some ((), h19)
theorem P_X10_init (X : jx) (a0 : Nat) (h : jh) : jv_P X M_X10_init jeV [.ref (a0)] h (f_X10_init a0 h) := by
  refine jv_P.of (by decide) rfl (by simp [Value.category]) (Nat.le_of_ble_eq_true rfl) ?_
  show jv_O X M_X10_init (h.1, h.2.1) jeV 0 [some (.ref (a0))] [] h (f_X10_init a0 h)
  unfold f_X10_init
  refine jv_aload_n (jv_dk t_X10_init (k := 0) rfl) rfl rfl (Or.inr ⟨_, rfl⟩) ?_
  refine jv_obj (jv_dk t_X10_init (k := 1) rfl) oi_X10_3 oi_2 oi_3 (Nat.le_of_ble_eq_true rfl) ⟨by decide, by decide⟩ ?_
  refine jv_aload_n (jv_dk t_X10_init (k := 2) rfl) rfl rfl (Or.inr ⟨_, rfl⟩) ?_
  refine jv_new (jv_dk t_X10_init (k := 3) rfl) kX9 ck_X10_9 ib_X9 iz_X9 df_X9 (fun q1 h2 => ?_)
  refine jv_dup (jv_dk t_X10_init (k := 4) rfl) rfl ?_
  refine jv_callI (en' := jeV) (pv := jpV) (As := []) (S := [.ref (q1), .ref (a0)]) (jv_dk t_X10_init (k := 5) rfl) (fun _ => rfl) lk_X10_11 me_X9_init mi_X9_init rfl rfl ⟨by decide, by decide⟩ rfl rfl (Nat.le_of_ble_eq_true rfl) (P_X9_init X q1 h2) (fun _ h3 => ?_)
  show jv_O X M_X10_init _ jeV 12 [some (.ref (a0))] [.ref (q1), .ref (a0)] h3 _
  refine jv_pV (jv_dk t_X10_init (k := 6) rfl) fl_X10_12 kX10 (Or.inr ⟨rfl, rfl, rfl, ff_X10_12⟩) rfl rfl rfl (fun h4 => ?_)
  refine jv_aload_n (jv_dk t_X10_init (k := 7) rfl) rfl rfl (Or.inr ⟨_, rfl⟩) ?_
  refine jv_bipush (v := 8) (jv_dk t_X10_init (k := 8) rfl) (by decide) ?_
  refine jv_newI (jv_dk t_X10_init (k := 9) rfl) ac_I (fun q5 h6 => ?_)
  refine jv_pV (jv_dk t_X10_init (k := 10) rfl) fl_X10_18 kX10 (Or.inr ⟨rfl, rfl, rfl, ff_X10_18⟩) rfl rfl rfl (fun h7 => ?_)
  refine jv_aload_n (jv_dk t_X10_init (k := 11) rfl) rfl rfl (Or.inr ⟨_, rfl⟩) ?_
  refine jv_bipush (v := 8) (jv_dk t_X10_init (k := 12) rfl) (by decide) ?_
  refine jv_newI (jv_dk t_X10_init (k := 13) rfl) ac_I (fun q8 h9 => ?_)
  refine jv_pV (jv_dk t_X10_init (k := 14) rfl) fl_X10_22 kX10 (Or.inr ⟨rfl, rfl, rfl, ff_X10_22⟩) rfl rfl rfl (fun h10 => ?_)
  refine jv_aload_n (jv_dk t_X10_init (k := 15) rfl) rfl rfl (Or.inr ⟨_, rfl⟩) ?_
  refine jv_bipush (v := 24) (jv_dk t_X10_init (k := 16) rfl) (by decide) ?_
  refine jv_newI (jv_dk t_X10_init (k := 17) rfl) ac_I (fun q11 h12 => ?_)
  refine jv_pV (jv_dk t_X10_init (k := 18) rfl) fl_X10_25 kX10 (Or.inr ⟨rfl, rfl, rfl, ff_X10_25⟩) rfl rfl rfl (fun h13 => ?_)
  refine jv_aload_n (jv_dk t_X10_init (k := 19) rfl) rfl rfl (Or.inr ⟨_, rfl⟩) ?_
  refine jv_bipush (v := 24) (jv_dk t_X10_init (k := 20) rfl) (by decide) ?_
  refine jv_newI (jv_dk t_X10_init (k := 21) rfl) ac_I (fun q14 h15 => ?_)
  refine jv_pV (jv_dk t_X10_init (k := 22) rfl) fl_X10_28 kX10 (Or.inr ⟨rfl, rfl, rfl, ff_X10_28⟩) rfl rfl rfl (fun h16 => ?_)
  refine jv_aload_n (jv_dk t_X10_init (k := 23) rfl) rfl rfl (Or.inr ⟨_, rfl⟩) ?_
  refine jv_bipush (v := 24) (jv_dk t_X10_init (k := 24) rfl) (by decide) ?_
  refine jv_newI (jv_dk t_X10_init (k := 25) rfl) ac_I (fun q17 h18 => ?_)
  refine jv_pV (jv_dk t_X10_init (k := 26) rfl) fl_X10_31 kX10 (Or.inr ⟨rfl, rfl, rfl, ff_X10_31⟩) rfl rfl rfl (fun h19 => ?_)
  exact jv_vret (jv_dk t_X10_init (k := 27) rfl) rfl rfl
def t0_X11_init : List (Nat × Instr × Nat) := [(0, .aload_n 0, 1), (1, .invokespecial 3, 3), (4, .aload_n 0, 1), (5, .new 9, 3), (8, .dup, 1), (9, .invokespecial 11, 3), (12, .putfield 12, 3), (15, .aload_n 0, 1), (16, .new 18, 3), (19, .dup, 1), (20, .invokespecial 20, 3), (23, .putfield 21, 3), (26, .aload_n 0, 1), (27, .new 25, 3), (30, .dup, 1), (31, .invokespecial 27, 3), (34, .putfield 28, 3), (37, .aload_n 0, 1), (38, .new 32, 3), (41, .dup, 1), (42, .invokespecial 34, 3), (45, .putfield 35, 3), (48, .return_, 1)]
theorem t_X11_init : jv_dec cX11_init t0_X11_init = true := by decide +kernel
def M_X11_init : jm := (yX11_init, cX11_init, 1, none, 3, 61, [])
theorem oi_X11_3 : Cond.methodLink RX11 3 Lib.objectInit ∈ lw_tbl := (jv_at 207 (by decide +kernel))
theorem ck_X11_9 : Cond.classLink RX11 9 RX5 ∈ lw_tbl := (jv_at 208 (by decide +kernel))
theorem ib_X5 : Cond.instantiable RX5 9 ∈ lw_tbl := (jv_at 209 (by decide +kernel))
theorem iz_X5 : Cond.initialized RX5 ∈ lw_tbl := (jv_at 164 (by decide +kernel))
theorem df_X5 : ∀ j, j < 9 → defaultValue (tyX5 j) = vp_V [.null, .null, .null, .null, .null, .null, .null, .int 0, .int 0] j := by decide +kernel
theorem lk_X11_11 : jv_lk RX11 11 M_X5_init := Or.inr ⟨"SpaceWarden", (jv_at 210 (by decide +kernel))⟩
set_option maxRecDepth 20000 in
theorem me_X5_init : jv_me M_X5_init 0 := ⟨(jv_in1 (List.mem_of_getElem? (i := 52) rfl)), (jv_at 164 (by decide +kernel)), ⟨by decide, by decide⟩, by decide +kernel⟩
theorem ff_X11_12 : Cond.fieldLink RX11 12 (TX11 0).1 (TX11 0).2.1 (TX11 0).2.2.1 ∈ lw_tbl := (jv_at 366 (by decide +kernel))
theorem ck_X11_18 : Cond.classLink RX11 18 RX4 ∈ lw_tbl := (jv_at 263 (by decide +kernel))
theorem ib_X4 : Cond.instantiable RX4 4 ∈ lw_tbl := (jv_at 264 (by decide +kernel))
theorem iz_X4 : Cond.initialized RX4 ∈ lw_tbl := (jv_at 165 (by decide +kernel))
theorem df_X4 : ∀ j, j < 4 → defaultValue (tyX4 j) = vp_V [.null, .null, .null, .null] j := by decide +kernel
theorem lk_X11_20 : jv_lk RX11 20 M_X4_init := Or.inr ⟨"SpaceWarden", (jv_at 265 (by decide +kernel))⟩
set_option maxRecDepth 20000 in
theorem me_X4_init : jv_me M_X4_init 0 := ⟨(jv_in1 (List.mem_of_getElem? (i := 107) rfl)), (jv_at 165 (by decide +kernel)), ⟨by decide, by decide⟩, by decide +kernel⟩
theorem ff_X11_21 : Cond.fieldLink RX11 21 (TX11 1).1 (TX11 1).2.1 (TX11 1).2.2.1 ∈ lw_tbl := (jv_at 370 (by decide +kernel))
theorem ck_X11_25 : Cond.classLink RX11 25 RX10 ∈ lw_tbl := (jv_at 303 (by decide +kernel))
theorem ib_X10 : Cond.instantiable RX10 6 ∈ lw_tbl := (jv_at 304 (by decide +kernel))
theorem iz_X10 : Cond.initialized RX10 ∈ lw_tbl := (jv_at 167 (by decide +kernel))
theorem df_X10 : ∀ j, j < 6 → defaultValue (tyX10 j) = vp_V [.null, .null, .null, .null, .null, .null] j := by decide +kernel
theorem lk_X11_27 : jv_lk RX11 27 M_X10_init := Or.inr ⟨"SpaceWarden", (jv_at 305 (by decide +kernel))⟩
set_option maxRecDepth 20000 in
theorem me_X10_init : jv_me M_X10_init 0 := ⟨(jv_in1 (List.mem_of_getElem? (i := 147) rfl)), (jv_at 167 (by decide +kernel)), ⟨by decide, by decide⟩, by decide +kernel⟩
theorem ff_X11_28 : Cond.fieldLink RX11 28 (TX11 2).1 (TX11 2).2.1 (TX11 2).2.2.1 ∈ lw_tbl := (jv_at 373 (by decide +kernel))
theorem ck_X11_32 : Cond.classLink RX11 32 RX2 ∈ lw_tbl := (jv_at 338 (by decide +kernel))
theorem ib_X2 : Cond.instantiable RX2 4 ∈ lw_tbl := (jv_at 339 (by decide +kernel))
theorem iz_X2 : Cond.initialized RX2 ∈ lw_tbl := (jv_at 168 (by decide +kernel))
theorem df_X2 : ∀ j, j < 4 → defaultValue (tyX2 j) = vp_V [.null, .null, .null, .int 0] j := by decide +kernel
theorem lk_X11_34 : jv_lk RX11 34 M_X2_init := Or.inr ⟨"SpaceWarden", (jv_at 340 (by decide +kernel))⟩
set_option maxRecDepth 20000 in
theorem me_X2_init : jv_me M_X2_init 0 := ⟨(jv_in1 (List.mem_of_getElem? (i := 182) rfl)), (jv_at 168 (by decide +kernel)), ⟨by decide, by decide⟩, by decide +kernel⟩
theorem ff_X11_35 : Cond.fieldLink RX11 35 (TX11 3).1 (TX11 3).2.1 (TX11 3).2.2.1 ∈ lw_tbl := (jv_at 376 (by decide +kernel))
theorem mi_X2_init : jv_mi M_X2_init := (jv_at 341 (by decide +kernel))
theorem mi_X10_init : jv_mi M_X10_init := (jv_at 306 (by decide +kernel))
theorem mi_X4_init : jv_mi M_X4_init := (jv_at 266 (by decide +kernel))
theorem mi_X5_init : jv_mi M_X5_init := (jv_at 211 (by decide +kernel))
def f_X11_init (a0 : Nat) (h : jh) : Option (Unit × jh) :=
  nO h 3 9 [.null, .null, .null, .null, .null, .null, .null, .int 0, .int 0] fun q1 h2 =>
  bd (f_X5_init q1 h2) fun _ h3 =>
  pV h3 a0 9 0 (.ref (q1)) fun h4 =>
  nO h4 2 4 [.null, .null, .null, .null] fun q5 h6 =>
  bd (f_X4_init q5 h6) fun _ h7 =>
  pV h7 a0 9 1 (.ref (q5)) fun h8 =>
  nO h8 8 6 [.null, .null, .null, .null, .null, .null] fun q9 h10 =>
  bd (f_X10_init q9 h10) fun _ h11 =>
  pV h11 a0 9 2 (.ref (q9)) fun h12 =>
  nO h12 0 4 [.null, .null, .null, .int 0] fun q13 h14 =>
  bd (f_X2_init q13 h14) fun _ h15 =>
  pV h15 a0 9 3 (.ref (q13)) fun h16 =>
  some ((), h16)
theorem P_X11_init (X : jx) (a0 : Nat) (h : jh) : jv_P X M_X11_init jeV [.ref (a0)] h (f_X11_init a0 h) := by
  refine jv_P.of (by decide) rfl (by simp [Value.category]) (Nat.le_of_ble_eq_true rfl) ?_
  show jv_O X M_X11_init (h.1, h.2.1) jeV 0 [some (.ref (a0))] [] h (f_X11_init a0 h)
  unfold f_X11_init
  refine jv_aload_n (jv_dk t_X11_init (k := 0) rfl) rfl rfl (Or.inr ⟨_, rfl⟩) ?_
  refine jv_obj (jv_dk t_X11_init (k := 1) rfl) oi_X11_3 oi_2 oi_3 (Nat.le_of_ble_eq_true rfl) ⟨by decide, by decide⟩ ?_
  refine jv_aload_n (jv_dk t_X11_init (k := 2) rfl) rfl rfl (Or.inr ⟨_, rfl⟩) ?_
  refine jv_new (jv_dk t_X11_init (k := 3) rfl) kX5 ck_X11_9 ib_X5 iz_X5 df_X5 (fun q1 h2 => ?_)
  refine jv_dup (jv_dk t_X11_init (k := 4) rfl) rfl ?_
  refine jv_callI (en' := jeV) (pv := jpV) (As := []) (S := [.ref (q1), .ref (a0)]) (jv_dk t_X11_init (k := 5) rfl) (fun _ => rfl) lk_X11_11 me_X5_init mi_X5_init rfl rfl ⟨by decide, by decide⟩ rfl rfl (Nat.le_of_ble_eq_true rfl) (P_X5_init X q1 h2) (fun _ h3 => ?_)
  show jv_O X M_X11_init _ jeV 12 [some (.ref (a0))] [.ref (q1), .ref (a0)] h3 _
  refine jv_pV (jv_dk t_X11_init (k := 6) rfl) fl_X11_12 kX11 (Or.inr ⟨rfl, rfl, rfl, ff_X11_12⟩) rfl rfl rfl (fun h4 => ?_)
  refine jv_aload_n (jv_dk t_X11_init (k := 7) rfl) rfl rfl (Or.inr ⟨_, rfl⟩) ?_
  refine jv_new (jv_dk t_X11_init (k := 8) rfl) kX4 ck_X11_18 ib_X4 iz_X4 df_X4 (fun q5 h6 => ?_)
  refine jv_dup (jv_dk t_X11_init (k := 9) rfl) rfl ?_
  refine jv_callI (en' := jeV) (pv := jpV) (As := []) (S := [.ref (q5), .ref (a0)]) (jv_dk t_X11_init (k := 10) rfl) (fun _ => rfl) lk_X11_20 me_X4_init mi_X4_init rfl rfl ⟨by decide, by decide⟩ rfl rfl (Nat.le_of_ble_eq_true rfl) (P_X4_init X q5 h6) (fun _ h7 => ?_)
  show jv_O X M_X11_init _ jeV 23 [some (.ref (a0))] [.ref (q5), .ref (a0)] h7 _
  refine jv_pV (jv_dk t_X11_init (k := 11) rfl) fl_X11_21 kX11 (Or.inr ⟨rfl, rfl, rfl, ff_X11_21⟩) rfl rfl rfl (fun h8 => ?_)
  refine jv_aload_n (jv_dk t_X11_init (k := 12) rfl) rfl rfl (Or.inr ⟨_, rfl⟩) ?_
  refine jv_new (jv_dk t_X11_init (k := 13) rfl) kX10 ck_X11_25 ib_X10 iz_X10 df_X10 (fun q9 h10 => ?_)
  refine jv_dup (jv_dk t_X11_init (k := 14) rfl) rfl ?_
  refine jv_callI (en' := jeV) (pv := jpV) (As := []) (S := [.ref (q9), .ref (a0)]) (jv_dk t_X11_init (k := 15) rfl) (fun _ => rfl) lk_X11_27 me_X10_init mi_X10_init rfl rfl ⟨by decide, by decide⟩ rfl rfl (Nat.le_of_ble_eq_true rfl) (P_X10_init X q9 h10) (fun _ h11 => ?_)
  show jv_O X M_X11_init _ jeV 34 [some (.ref (a0))] [.ref (q9), .ref (a0)] h11 _
  refine jv_pV (jv_dk t_X11_init (k := 16) rfl) fl_X11_28 kX11 (Or.inr ⟨rfl, rfl, rfl, ff_X11_28⟩) rfl rfl rfl (fun h12 => ?_)
  refine jv_aload_n (jv_dk t_X11_init (k := 17) rfl) rfl rfl (Or.inr ⟨_, rfl⟩) ?_
  refine jv_new (jv_dk t_X11_init (k := 18) rfl) kX2 ck_X11_32 ib_X2 iz_X2 df_X2 (fun q13 h14 => ?_)
  refine jv_dup (jv_dk t_X11_init (k := 19) rfl) rfl ?_
  refine jv_callI (en' := jeV) (pv := jpV) (As := []) (S := [.ref (q13), .ref (a0)]) (jv_dk t_X11_init (k := 20) rfl) (fun _ => rfl) lk_X11_34 me_X2_init mi_X2_init rfl rfl ⟨by decide, by decide⟩ rfl rfl (Nat.le_of_ble_eq_true rfl) (P_X2_init X q13 h14) (fun _ h15 => ?_)
  show jv_O X M_X11_init _ jeV 45 [some (.ref (a0))] [.ref (q13), .ref (a0)] h15 _
  refine jv_pV (jv_dk t_X11_init (k := 21) rfl) fl_X11_35 kX11 (Or.inr ⟨rfl, rfl, rfl, ff_X11_35⟩) rfl rfl rfl (fun h16 => ?_)
  exact jv_vret (jv_dk t_X11_init (k := 22) rfl) rfl rfl
def t0_X8_init : List (Nat × Instr × Nat) := [(0, .aload_n 0, 1), (1, .invokespecial 3, 3), (4, .aload_n 0, 1), (5, .new 9, 3), (8, .dup, 1), (9, .invokespecial 11, 3), (12, .putfield 12, 3), (15, .aload_n 0, 1), (16, .bipush 41, 2), (18, .anewarray 9, 3), (21, .putfield 18, 3), (24, .aload_n 0, 1), (25, .new 22, 3), (28, .dup, 1), (29, .invokespecial 24, 3), (32, .putfield 25, 3), (35, .aload_n 0, 1), (36, .iconst 3, 1), (37, .newarray .int, 2), (39, .putfield 29, 3), (42, .aload_n 0, 1), (43, .iconst 0, 1), (44, .putfield 33, 3), (47, .aload_n 0, 1), (48, .iconst 0, 1), (49, .putfield 37, 3), (52, .return_, 1)]
theorem t_X8_init : jv_dec cX8_init t0_X8_init = true := by decide +kernel
def M_X8_init : jm := (yX8_init, cX8_init, 1, none, 4, 81, [])
theorem oi_X8_3 : Cond.methodLink RX8 3 Lib.objectInit ∈ lw_tbl := (jv_at 201 (by decide +kernel))
theorem ck_X8_9 : Cond.classLink RX8 9 RX11 ∈ lw_tbl := (jv_at 202 (by decide +kernel))
theorem ib_X11 : Cond.instantiable RX11 4 ∈ lw_tbl := (jv_at 203 (by decide +kernel))
theorem iz_X11 : Cond.initialized RX11 ∈ lw_tbl := (jv_at 163 (by decide +kernel))
theorem df_X11 : ∀ j, j < 4 → defaultValue (tyX11 j) = vp_V [.null, .null, .null, .null] j := by decide +kernel
theorem lk_X8_11 : jv_lk RX8 11 M_X11_init := Or.inr ⟨"SpaceWarden", (jv_at 204 (by decide +kernel))⟩
set_option maxRecDepth 20000 in
theorem me_X11_init : jv_me M_X11_init 0 := ⟨(jv_in1 (List.mem_of_getElem? (i := 46) rfl)), (jv_at 163 (by decide +kernel)), ⟨by decide, by decide⟩, by decide +kernel⟩
theorem fl_X8_12 : jv_F RX8 12 6 0 RX8 TX8 6 := ⟨rfl, by decide, inX8, Or.inl (jv_at 409 (by decide +kernel))⟩
theorem ff_X8_12 : Cond.fieldLink RX8 12 (TX8 0).1 (TX8 0).2.1 (TX8 0).2.2.1 ∈ lw_tbl := (jv_at 409 (by decide +kernel))
theorem fl_X8_18 : jv_F RX8 18 6 1 RX8 TX8 6 := ⟨rfl, by decide, inX8, Or.inl (jv_at 411 (by decide +kernel))⟩
theorem ff_X8_18 : Cond.fieldLink RX8 18 (TX8 1).1 (TX8 1).2.1 (TX8 1).2.2.1 ∈ lw_tbl := (jv_at 411 (by decide +kernel))
theorem ck_X8_22 : Cond.classLink RX8 22 RX3 ∈ lw_tbl := (jv_at 389 (by decide +kernel))
theorem ib_X3 : Cond.instantiable RX3 4 ∈ lw_tbl := (jv_at 390 (by decide +kernel))
theorem iz_X3 : Cond.initialized RX3 ∈ lw_tbl := (jv_at 169 (by decide +kernel))
theorem df_X3 : ∀ j, j < 4 → defaultValue (tyX3 j) = vp_V [.null, .null, .null, .int 0] j := by decide +kernel
theorem lk_X8_24 : jv_lk RX8 24 M_X3_init := Or.inr ⟨"SpaceWarden", (jv_at 391 (by decide +kernel))⟩
set_option maxRecDepth 20000 in
theorem me_X3_init : jv_me M_X3_init 0 := ⟨(jv_in1 (List.mem_of_getElem? (i := 233) rfl)), (jv_at 169 (by decide +kernel)), ⟨by decide, by decide⟩, by decide +kernel⟩
theorem fl_X8_25 : jv_F RX8 25 6 2 RX8 TX8 6 := ⟨rfl, by decide, inX8, Or.inl (jv_at 412 (by decide +kernel))⟩
theorem ff_X8_25 : Cond.fieldLink RX8 25 (TX8 2).1 (TX8 2).2.1 (TX8 2).2.2.1 ∈ lw_tbl := (jv_at 412 (by decide +kernel))
theorem fl_X8_29 : jv_F RX8 29 6 3 RX8 TX8 6 := ⟨rfl, by decide, inX8, Or.inl (jv_at 414 (by decide +kernel))⟩
theorem ff_X8_29 : Cond.fieldLink RX8 29 (TX8 3).1 (TX8 3).2.1 (TX8 3).2.2.1 ∈ lw_tbl := (jv_at 414 (by decide +kernel))
theorem fl_X8_33 : jv_F RX8 33 6 4 RX8 TX8 6 := ⟨rfl, by decide, inX8, Or.inl (jv_at 416 (by decide +kernel))⟩
theorem fl_X8_37 : jv_F RX8 37 6 5 RX8 TX8 6 := ⟨rfl, by decide, inX8, Or.inl (jv_at 417 (by decide +kernel))⟩
theorem mi_X3_init : jv_mi M_X3_init := (jv_at 392 (by decide +kernel))
theorem mi_X11_init : jv_mi M_X11_init := (jv_at 205 (by decide +kernel))
def f_X8_init (a0 : Nat) (h : jh) : Option (Unit × jh) :=
  nO h 9 4 [.null, .null, .null, .null] fun q1 h2 =>
  bd (f_X11_init q1 h2) fun _ h3 =>
  pV h3 a0 6 0 (.ref (q1)) fun h4 =>
  nQ h4 2 41 fun q5 h6 =>
  pV h6 a0 6 1 (.ref (q5)) fun h7 =>
  nO h7 1 4 [.null, .null, .null, .int 0] fun q8 h9 =>
  bd (f_X3_init q8 h9) fun _ h10 =>
  pV h10 a0 6 2 (.ref (q8)) fun h11 =>
  nI4 h11 3 fun q12 h13 =>
  pV h13 a0 6 3 (.ref (q12)) fun h14 =>
  pV h14 a0 6 4 (.int (0)) fun h15 =>
  pV h15 a0 6 5 (.int (0)) fun h16 =>
  some ((), h16)
theorem P_X8_init (X : jx) (a0 : Nat) (h : jh) : jv_P X M_X8_init jeV [.ref (a0)] h (f_X8_init a0 h) := by
  refine jv_P.of (by decide) rfl (by simp [Value.category]) (Nat.le_of_ble_eq_true rfl) ?_
  show jv_O X M_X8_init (h.1, h.2.1) jeV 0 [some (.ref (a0))] [] h (f_X8_init a0 h)
  unfold f_X8_init
  refine jv_aload_n (jv_dk t_X8_init (k := 0) rfl) rfl rfl (Or.inr ⟨_, rfl⟩) ?_
  refine jv_obj (jv_dk t_X8_init (k := 1) rfl) oi_X8_3 oi_2 oi_3 (Nat.le_of_ble_eq_true rfl) ⟨by decide, by decide⟩ ?_
  refine jv_aload_n (jv_dk t_X8_init (k := 2) rfl) rfl rfl (Or.inr ⟨_, rfl⟩) ?_
  refine jv_new (jv_dk t_X8_init (k := 3) rfl) kX11 ck_X8_9 ib_X11 iz_X11 df_X11 (fun q1 h2 => ?_)
  refine jv_dup (jv_dk t_X8_init (k := 4) rfl) rfl ?_
  refine jv_callI (en' := jeV) (pv := jpV) (As := []) (S := [.ref (q1), .ref (a0)]) (jv_dk t_X8_init (k := 5) rfl) (fun _ => rfl) lk_X8_11 me_X11_init mi_X11_init rfl rfl ⟨by decide, by decide⟩ rfl rfl (Nat.le_of_ble_eq_true rfl) (P_X11_init X q1 h2) (fun _ h3 => ?_)
  show jv_O X M_X8_init _ jeV 12 [some (.ref (a0))] [.ref (q1), .ref (a0)] h3 _
  refine jv_pV (jv_dk t_X8_init (k := 6) rfl) fl_X8_12 kX8 (Or.inr ⟨rfl, rfl, rfl, ff_X8_12⟩) rfl rfl rfl (fun h4 => ?_)
  refine jv_aload_n (jv_dk t_X8_init (k := 7) rfl) rfl rfl (Or.inr ⟨_, rfl⟩) ?_
  refine jv_bipush (v := 41) (jv_dk t_X8_init (k := 8) rfl) (by decide) ?_
  refine jv_newQ (t := 2) (C := RX11) (jv_dk t_X8_init (k := 9) rfl) ck_X8_9 rfl (fun U hU => hU.2.2.2.1) (fun q5 h6 => ?_)
  refine jv_pV (jv_dk t_X8_init (k := 10) rfl) fl_X8_18 kX8 (Or.inr ⟨rfl, rfl, rfl, ff_X8_18⟩) rfl rfl rfl (fun h7 => ?_)
  refine jv_aload_n (jv_dk t_X8_init (k := 11) rfl) rfl rfl (Or.inr ⟨_, rfl⟩) ?_
  refine jv_new (jv_dk t_X8_init (k := 12) rfl) kX3 ck_X8_22 ib_X3 iz_X3 df_X3 (fun q8 h9 => ?_)
  refine jv_dup (jv_dk t_X8_init (k := 13) rfl) rfl ?_
  refine jv_callI (en' := jeV) (pv := jpV) (As := []) (S := [.ref (q8), .ref (a0)]) (jv_dk t_X8_init (k := 14) rfl) (fun _ => rfl) lk_X8_24 me_X3_init mi_X3_init rfl rfl ⟨by decide, by decide⟩ rfl rfl (Nat.le_of_ble_eq_true rfl) (P_X3_init X q8 h9) (fun _ h10 => ?_)
  show jv_O X M_X8_init _ jeV 32 [some (.ref (a0))] [.ref (q8), .ref (a0)] h10 _
  refine jv_pV (jv_dk t_X8_init (k := 15) rfl) fl_X8_25 kX8 (Or.inr ⟨rfl, rfl, rfl, ff_X8_25⟩) rfl rfl rfl (fun h11 => ?_)
  refine jv_aload_n (jv_dk t_X8_init (k := 16) rfl) rfl rfl (Or.inr ⟨_, rfl⟩) ?_
  refine jv_iconst (v := 3) (jv_dk t_X8_init (k := 17) rfl) (by decide) ?_
  refine jv_newI (jv_dk t_X8_init (k := 18) rfl) ac_I (fun q12 h13 => ?_)
  refine jv_pV (jv_dk t_X8_init (k := 19) rfl) fl_X8_29 kX8 (Or.inr ⟨rfl, rfl, rfl, ff_X8_29⟩) rfl rfl rfl (fun h14 => ?_)
  refine jv_aload_n (jv_dk t_X8_init (k := 20) rfl) rfl rfl (Or.inr ⟨_, rfl⟩) ?_
  refine jv_iconst (v := 0) (jv_dk t_X8_init (k := 21) rfl) (by decide) ?_
  refine jv_pV (jv_dk t_X8_init (k := 22) rfl) fl_X8_33 kX8 (Or.inl rfl) rfl rfl rfl (fun h15 => ?_)
  refine jv_aload_n (jv_dk t_X8_init (k := 23) rfl) rfl rfl (Or.inr ⟨_, rfl⟩) ?_
  refine jv_iconst (v := 0) (jv_dk t_X8_init (k := 24) rfl) (by decide) ?_
  refine jv_pV (jv_dk t_X8_init (k := 25) rfl) fl_X8_37 kX8 (Or.inl rfl) rfl rfl rfl (fun h16 => ?_)
  exact jv_vret (jv_dk t_X8_init (k := 26) rfl) rfl rfl
def t0_X8_rowAt : List (Nat × Instr × Nat) := [(0, .aload_n 0, 1), (1, .getfield 18, 3), (4, .iload_n 1, 1), (5, .aaload, 1), (6, .astore_n 2, 1), (7, .aload_n 2, 1), (8, .ifnonnull 18, 3), (11, .new 9, 3), (14, .dup, 1), (15, .invokespecial 11, 3), (18, .astore_n 2, 1), (19, .aload_n 0, 1), (20, .getfield 18, 3), (23, .iload_n 1, 1), (24, .aload_n 2, 1), (25, .aastore, 1), (26, .aload_n 2, 1), (27, .areturn, 1)]
theorem t_X8_rowAt : jv_dec cX8_rowAt t0_X8_rowAt = true := by decide +kernel
def M_X8_rowAt : jm := (yX8_rowAt, cX8_rowAt, 3, (some (.object "SpaceWarden$World")), 4, 81, [])
def f_X8_rowAt (a0 : Nat) (a1 : Int32) (h : jh) : Option (Option Nat × jh) :=
  gR h a0 6 1 fun v1 =>
  aQ h 2 v1 a1 fun v2 =>
  nq v2 (nO h 9 4 [.null, .null, .null, .null] fun q4 h5 =>
  bd (f_X11_init q4 h5) fun _ h6 =>
  gR h6 a0 6 1 fun v7 =>
  sW h6 v7 a1 q4 fun h8 =>
  some ((some q4), h8)) fun r3 =>
  some ((some r3), h)
theorem P_X8_rowAt (X : jx) (a0 : Nat) (a1 : Int32) (h : jh) : jv_P X M_X8_rowAt jeQ [.ref (a0), .int (a1)] h (f_X8_rowAt a0 a1 h) := by
  refine jv_P.of (by decide) rfl (by simp [Value.category]) (Nat.le_of_ble_eq_true rfl) ?_
  show jv_O X M_X8_rowAt (h.1, h.2.1) jeQ 0 [some (.ref (a0)), some (.int (a1)), none] [] h (f_X8_rowAt a0 a1 h)
  unfold f_X8_rowAt
  refine jv_aload_n (jv_dk t_X8_rowAt (k := 0) rfl) rfl rfl (Or.inr ⟨_, rfl⟩) ?_
  refine jv_gR (jv_dk t_X8_rowAt (k := 1) rfl) fl_X8_18 (fun v1 => ?_)
  refine jv_iload_n (jv_dk t_X8_rowAt (k := 2) rfl) rfl rfl ?_
  refine jv_aaloadW (jv_dk t_X8_rowAt (k := 3) rfl) (fun v2 => ?_)
  refine jv_astore_n (L' := [some (.ref (a0)), some (.int (a1)), some (va_rf (v2))]) (jv_dk t_X8_rowAt (k := 4) rfl) rfl (Nat.le_of_ble_eq_true rfl) (va_rf_or _) rfl ?_
  refine jv_aload_n (jv_dk t_X8_rowAt (k := 5) rfl) rfl rfl (va_rf_or _) ?_
  refine jv_nq (fun e_r3 => ?_) (fun r3 e_r3 => ?_)
  · subst e_r3
    show jv_O X M_X8_rowAt _ jeQ 8 [some (.ref (a0)), some (.int (a1)), some (.null)] [.null] h _
    refine jv_ifnonnull_n (jv_dk t_X8_rowAt (k := 6) rfl) ?_
    refine jv_new (jv_dk t_X8_rowAt (k := 7) rfl) kX11 ck_X8_9 ib_X11 iz_X11 df_X11 (fun q4 h5 => ?_)
    refine jv_dup (jv_dk t_X8_rowAt (k := 8) rfl) rfl ?_
    refine jv_callI (en' := jeV) (pv := jpV) (As := []) (S := [.ref (q4)]) (jv_dk t_X8_rowAt (k := 9) rfl) (fun _ => rfl) lk_X8_11 me_X11_init mi_X11_init rfl rfl ⟨by decide, by decide⟩ rfl rfl (Nat.le_of_ble_eq_true rfl) (P_X11_init X q4 h5) (fun _ h6 => ?_)
    show jv_O X M_X8_rowAt _ jeQ 18 [some (.ref (a0)), some (.int (a1)), some (.null)] [.ref (q4)] h6 _
    refine jv_astore_n (L' := [some (.ref (a0)), some (.int (a1)), some (.ref (q4))]) (jv_dk t_X8_rowAt (k := 10) rfl) rfl (Nat.le_of_ble_eq_true rfl) (Or.inr ⟨_, rfl⟩) rfl ?_
    refine jv_aload_n (jv_dk t_X8_rowAt (k := 11) rfl) rfl rfl (Or.inr ⟨_, rfl⟩) ?_
    refine jv_gR (jv_dk t_X8_rowAt (k := 12) rfl) fl_X8_18 (fun v7 => ?_)
    refine jv_iload_n (jv_dk t_X8_rowAt (k := 13) rfl) rfl rfl ?_
    refine jv_aload_n (jv_dk t_X8_rowAt (k := 14) rfl) rfl rfl (Or.inr ⟨_, rfl⟩) ?_
    refine jv_aastoreW (jv_dk t_X8_rowAt (k := 15) rfl) (fun h8 => ?_)
    refine jv_aload_n (jv_dk t_X8_rowAt (k := 16) rfl) rfl rfl (Or.inr ⟨_, rfl⟩) ?_
    exact jv_aret (n := "SpaceWarden$World") (jv_dk t_X8_rowAt (k := 17) rfl) rfl (Or.inr ⟨_, rfl⟩) rfl
  · subst e_r3
    show jv_O X M_X8_rowAt _ jeQ 8 [some (.ref (a0)), some (.int (a1)), some (.ref (r3))] [.ref (r3)] h _
    refine jv_ifnonnull_s (tgt := 26) (jv_dk t_X8_rowAt (k := 6) rfl) rfl ?_
    refine jv_aload_n (jv_dk t_X8_rowAt (k := 16) rfl) rfl rfl (Or.inr ⟨_, rfl⟩) ?_
    exact jv_aret (n := "SpaceWarden$World") (jv_dk t_X8_rowAt (k := 17) rfl) rfl (Or.inr ⟨_, rfl⟩) rfl
def t0_X10_copy : List (Nat × Instr × Nat) := [(0, .aload_n 0, 1), (1, .getfield 12, 3), (4, .aload_n 1, 1), (5, .getfield 12, 3), (8, .invokevirtual 34, 3), (11, .aload_n 1, 1), (12, .getfield 18, 3), (15, .aload_n 0, 1), (16, .getfield 18, 3), (19, .invokestatic 38, 3), (22, .aload_n 1, 1), (23, .getfield 22, 3), (26, .aload_n 0, 1), (27, .getfield 22, 3), (30, .invokestatic 38, 3), (33, .aload_n 1, 1), (34, .getfield 25, 3), (37, .aload_n 0, 1), (38, .getfield 25, 3), (41, .invokestatic 38, 3), (44, .aload_n 1, 1), (45, .getfield 28, 3), (48, .aload_n 0, 1), (49, .getfield 28, 3), (52, .invokestatic 38, 3), (55, .aload_n 1, 1), (56, .getfield 31, 3), (59, .aload_n 0, 1), (60, .getfield 31, 3), (63, .invokestatic 38, 3), (66, .return_, 1)]
theorem t_X10_copy : jv_dec cX10_copy t0_X10_copy = true := by decide +kernel
def M_X10_copy : jm := (yX10_copy, cX10_copy, 2, none, 3, 82, [])
theorem lk_X10_34 : jv_lk RX10 34 M_X9_copy := Or.inr ⟨"SpaceWarden", (jv_at 575 (by decide +kernel))⟩
theorem lk_X10_38 : jv_lk RX10 38 M_X12_copyRow := Or.inr ⟨"SpaceWarden", (jv_at 576 (by decide +kernel))⟩
def f_X10_copy (a0 : Nat) (a1 : Nat) (h : jh) : Option (Unit × jh) :=
  gR h a0 8 0 fun v1 =>
  gR h a1 8 0 fun v2 =>
  cV h v1 7 (f_X9_copy v1 v2 h) fun _ h3 =>
  gR h3 a1 8 1 fun v4 =>
  gR h3 a0 8 1 fun v5 =>
  bd (f_X12_copyRow v4 v5 h3) fun _ h6 =>
  gR h6 a1 8 2 fun v7 =>
  gR h6 a0 8 2 fun v8 =>
  bd (f_X12_copyRow v7 v8 h6) fun _ h9 =>
  gR h9 a1 8 3 fun v10 =>
  gR h9 a0 8 3 fun v11 =>
  bd (f_X12_copyRow v10 v11 h9) fun _ h12 =>
  gR h12 a1 8 4 fun v13 =>
  gR h12 a0 8 4 fun v14 =>
  bd (f_X12_copyRow v13 v14 h12) fun _ h15 =>
  gR h15 a1 8 5 fun v16 =>
  gR h15 a0 8 5 fun v17 =>
  bd (f_X12_copyRow v16 v17 h15) fun _ h18 =>
  some ((), h18)
theorem P_X10_copy (X : jx) (a0 : Nat) (a1 : Nat) (h : jh) : jv_P X M_X10_copy jeV [.ref (a0), .ref (a1)] h (f_X10_copy a0 a1 h) := by
  refine jv_P.of (by decide) rfl (by simp [Value.category]) (Nat.le_of_ble_eq_true rfl) ?_
  show jv_O X M_X10_copy (h.1, h.2.1) jeV 0 [some (.ref (a0)), some (.ref (a1))] [] h (f_X10_copy a0 a1 h)
  unfold f_X10_copy
  refine jv_aload_n (jv_dk t_X10_copy (k := 0) rfl) rfl rfl (Or.inr ⟨_, rfl⟩) ?_
  refine jv_gR (jv_dk t_X10_copy (k := 1) rfl) fl_X10_12 (fun v1 => ?_)
  refine jv_aload_n (jv_dk t_X10_copy (k := 2) rfl) rfl rfl (Or.inr ⟨_, rfl⟩) ?_
  refine jv_gR (jv_dk t_X10_copy (k := 3) rfl) fl_X10_12 (fun v2 => ?_)
  refine jv_callV (en' := jeV) (pv := jpV) (As := [.ref (v2)]) (S := []) (jv_dk t_X10_copy (k := 4) rfl) (fun _ => rfl) lk_X10_34 me_X9_copy mv_X9_copy ⟨by decide, by decide⟩ rfl rfl rfl (Nat.le_of_ble_eq_true rfl) (P_X9_copy X v1 v2 h) (fun _ h3 => ?_)
  show jv_O X M_X10_copy _ jeV 11 [some (.ref (a0)), some (.ref (a1))] [] h3 _
  refine jv_aload_n (jv_dk t_X10_copy (k := 5) rfl) rfl rfl (Or.inr ⟨_, rfl⟩) ?_
  refine jv_gR (jv_dk t_X10_copy (k := 6) rfl) fl_X10_18 (fun v4 => ?_)
  refine jv_aload_n (jv_dk t_X10_copy (k := 7) rfl) rfl rfl (Or.inr ⟨_, rfl⟩) ?_
  refine jv_gR (jv_dk t_X10_copy (k := 8) rfl) fl_X10_18 (fun v5 => ?_)
  refine jv_callS (en' := jeV) (pv := jpV) (As := [.ref (v4), .ref (v5)]) (S := []) (jv_dk t_X10_copy (k := 9) rfl) (fun _ => rfl) lk_X10_38 me_X12_copyRow ms_X12_copyRow ⟨by decide, by decide⟩ rfl rfl (Nat.le_of_ble_eq_true rfl) (P_X12_copyRow X v4 v5 h3) (fun _ h6 => ?_)
  show jv_O X M_X10_copy _ jeV 22 [some (.ref (a0)), some (.ref (a1))] [] h6 _
  refine jv_aload_n (jv_dk t_X10_copy (k := 10) rfl) rfl rfl (Or.inr ⟨_, rfl⟩) ?_
  refine jv_gR (jv_dk t_X10_copy (k := 11) rfl) fl_X10_22 (fun v7 => ?_)
  refine jv_aload_n (jv_dk t_X10_copy (k := 12) rfl) rfl rfl (Or.inr ⟨_, rfl⟩) ?_
  refine jv_gR (jv_dk t_X10_copy (k := 13) rfl) fl_X10_22 (fun v8 => ?_)
  refine jv_callS (en' := jeV) (pv := jpV) (As := [.ref (v7), .ref (v8)]) (S := []) (jv_dk t_X10_copy (k := 14) rfl) (fun _ => rfl) lk_X10_38 me_X12_copyRow ms_X12_copyRow ⟨by decide, by decide⟩ rfl rfl (Nat.le_of_ble_eq_true rfl) (P_X12_copyRow X v7 v8 h6) (fun _ h9 => ?_)
  show jv_O X M_X10_copy _ jeV 33 [some (.ref (a0)), some (.ref (a1))] [] h9 _
  refine jv_aload_n (jv_dk t_X10_copy (k := 15) rfl) rfl rfl (Or.inr ⟨_, rfl⟩) ?_
  refine jv_gR (jv_dk t_X10_copy (k := 16) rfl) fl_X10_25 (fun v10 => ?_)
  refine jv_aload_n (jv_dk t_X10_copy (k := 17) rfl) rfl rfl (Or.inr ⟨_, rfl⟩) ?_
  refine jv_gR (jv_dk t_X10_copy (k := 18) rfl) fl_X10_25 (fun v11 => ?_)
  refine jv_callS (en' := jeV) (pv := jpV) (As := [.ref (v10), .ref (v11)]) (S := []) (jv_dk t_X10_copy (k := 19) rfl) (fun _ => rfl) lk_X10_38 me_X12_copyRow ms_X12_copyRow ⟨by decide, by decide⟩ rfl rfl (Nat.le_of_ble_eq_true rfl) (P_X12_copyRow X v10 v11 h9) (fun _ h12 => ?_)
  show jv_O X M_X10_copy _ jeV 44 [some (.ref (a0)), some (.ref (a1))] [] h12 _
  refine jv_aload_n (jv_dk t_X10_copy (k := 20) rfl) rfl rfl (Or.inr ⟨_, rfl⟩) ?_
  refine jv_gR (jv_dk t_X10_copy (k := 21) rfl) fl_X10_28 (fun v13 => ?_)
  refine jv_aload_n (jv_dk t_X10_copy (k := 22) rfl) rfl rfl (Or.inr ⟨_, rfl⟩) ?_
  refine jv_gR (jv_dk t_X10_copy (k := 23) rfl) fl_X10_28 (fun v14 => ?_)
  refine jv_callS (en' := jeV) (pv := jpV) (As := [.ref (v13), .ref (v14)]) (S := []) (jv_dk t_X10_copy (k := 24) rfl) (fun _ => rfl) lk_X10_38 me_X12_copyRow ms_X12_copyRow ⟨by decide, by decide⟩ rfl rfl (Nat.le_of_ble_eq_true rfl) (P_X12_copyRow X v13 v14 h12) (fun _ h15 => ?_)
  show jv_O X M_X10_copy _ jeV 55 [some (.ref (a0)), some (.ref (a1))] [] h15 _
  refine jv_aload_n (jv_dk t_X10_copy (k := 25) rfl) rfl rfl (Or.inr ⟨_, rfl⟩) ?_
  refine jv_gR (jv_dk t_X10_copy (k := 26) rfl) fl_X10_31 (fun v16 => ?_)
  refine jv_aload_n (jv_dk t_X10_copy (k := 27) rfl) rfl rfl (Or.inr ⟨_, rfl⟩) ?_
  refine jv_gR (jv_dk t_X10_copy (k := 28) rfl) fl_X10_31 (fun v17 => ?_)
  refine jv_callS (en' := jeV) (pv := jpV) (As := [.ref (v16), .ref (v17)]) (S := []) (jv_dk t_X10_copy (k := 29) rfl) (fun _ => rfl) lk_X10_38 me_X12_copyRow ms_X12_copyRow ⟨by decide, by decide⟩ rfl rfl (Nat.le_of_ble_eq_true rfl) (P_X12_copyRow X v16 v17 h15) (fun _ h18 => ?_)
  show jv_O X M_X10_copy _ jeV 66 [some (.ref (a0)), some (.ref (a1))] [] h18 _
  exact jv_vret (jv_dk t_X10_copy (k := 30) rfl) rfl rfl
