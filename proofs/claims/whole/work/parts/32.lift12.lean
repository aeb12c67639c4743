def t0_X13_mapNow : List (Nat × Instr × Nat) := [(0, .aload_n 0, 1), (1, .iload_n 1, 1), (2, .iload_n 2, 1), (3, .iload_n 3, 1), (4, .iload 4, 2), (6, .iload 5, 2), (8, .invokevirtual 270, 3), (11, .ifCond .ne 5, 3), (14, .iconst (-1), 1), (15, .ireturn, 1), (16, .aload_n 0, 1), (17, .iconst 1, 1), (18, .iload_n 2, 1), (19, .iconst 3, 1), (20, .invokevirtual 217, 3), (23, .istore 6, 2), (25, .iload 6, 2), (27, .ifCond .le 74, 3), (30, .aload_n 0, 1), (31, .getfield 37, 3), (34, .aload_n 0, 1), (35, .iload_n 2, 1), (36, .iload 6, 2), (38, .iconst 1, 1), (39, .isub, 1), (40, .invokevirtual 224, 3), (43, .iaload, 1), (44, .iload_n 3, 1), (45, .if_icmp .le 56, 3), (48, .iconst 0, 1), (49, .istore 7, 2), (51, .iload 7, 2), (53, .iconst 3, 1), (54, .if_icmp .ge 41, 3), (57, .aload_n 0, 1), (58, .getfield 37, 3), (61, .aload_n 0, 1), (62, .iload_n 2, 1), (63, .iload 6, 2), (65, .invokevirtual 224, 3), (68, .iload 7, 2), (70, .iadd, 1), (71, .aload_n 0, 1), (72, .getfield 37, 3), (75, .aload_n 0, 1), (76, .iload_n 2, 1), (77, .iload 6, 2), (79, .iconst 1, 1), (80, .isub, 1), (81, .invokevirtual 224, 3), (84, .iload 7, 2), (86, .iadd, 1), (87, .iaload, 1), (88, .iastore, 1), (89, .iinc 7 1, 3), (92, .goto (-41), 3), (95, .iinc 6 (-1), 3), (98, .goto (-73), 3), (101, .aload_n 0, 1), (102, .getfield 37, 3), (105, .aload_n 0, 1), (106, .iload_n 2, 1), (107, .iload 6, 2), (109, .invokevirtual 224, 3), (112, .iload_n 3, 1), (113, .iastore, 1), (114, .aload_n 0, 1), (115, .getfield 37, 3), (118, .aload_n 0, 1), (119, .iload_n 2, 1), (120, .iload 6, 2), (122, .invokevirtual 224, 3), (125, .iconst 1, 1), (126, .iadd, 1), (127, .iload 4, 2), (129, .iastore, 1), (130, .aload_n 0, 1), (131, .getfield 37, 3), (134, .aload_n 0, 1), (135, .iload_n 2, 1), (136, .iload 6, 2), (138, .invokevirtual 224, 3), (141, .iconst 2, 1), (142, .iadd, 1), (143, .iload 5, 2), (145, .iastore, 1), (146, .aload_n 0, 1), (147, .getfield 37, 3), (150, .iconst 1, 1), (151, .iload_n 2, 1), (152, .invokestatic 99, 3), (155, .iconst 3, 1), (156, .iadd, 1), (157, .dup2, 1), (158, .iaload, 1), (159, .iconst 1, 1), (160, .iadd, 1), (161, .iastore, 1), (162, .aload_n 0, 1), (163, .iconst 1, 1), (164, .iload_n 2, 1), (165, .iconst 3, 1), (166, .invokevirtual 217, 3), (169, .ireturn, 1)]
theorem t_X13_mapNow : jv_dec cX13_mapNow t0_X13_mapNow = true := by decide +kernel
def M_X13_mapNow : jm := (yX13_mapNow, cX13_mapNow, 8, (some .int), 5, 121, [])
theorem lk_X13_270 : Cond.methodLink RX13 270 M_X13_canMap.1 ∈ lw_tbl := (jv_at 1604 (by decide +kernel))
set_option maxRecDepth 20000 in
theorem me_X13_canMap : jv_me M_X13_canMap 5 := ⟨(jv_in7 (List.mem_of_getElem? (i := 7) rfl)), (jv_at 172 (by decide +kernel)), ⟨by decide, by decide⟩, by decide +kernel⟩
theorem mv_X13_canMap : jv_mv M_X13_canMap := ⟨(jv_at 1606 (by decide +kernel)), (jv_at 119 (by decide +kernel))⟩
def f_X13_mapNow_h51 (R25 : Nat → Int32 → Int32 → Int32 → Int32 → Int32 → jh → Option (Int32 × jh)) (K25 : Nat → Int32 → Int32 → Int32 → Int32 → Int32 → jh → Option (Int32 × jh)) (K51 : Nat → Int32 → Int32 → Int32 → Int32 → Int32 → jh → Option (Int32 × jh)) (R51 : Nat → Int32 → Int32 → Int32 → Int32 → Int32 → Int32 → jh → Option (Int32 × jh)) (x0 : Nat) (x2 : Int32) (x3 : Int32) (x4 : Int32) (x5 : Int32) (x6 : Int32) (x7 : Int32) (h : jh) : Option (Int32 × jh) :=
  (if 3 ≤ x7 then
  K51 x0 x2 x3 x4 x5 x6 h
  else
  gR h x0 11 2 fun v13 =>
  cV h x0 11 (f_X13_rangeAt x0 x2 x6 h) fun v14 h15 =>
  gR h15 x0 11 2 fun v16 =>
  cV h15 x0 11 (f_X13_rangeAt x0 x2 (x6 - 1) h15) fun v17 h18 =>
  aI h18 v16 (v17 + x7) fun v19 =>
  sI h18 v13 (v14 + x7) v19 fun h20 =>
  R51 x0 x2 x3 x4 x5 x6 (x7 + 1) h20)
theorem o_f_X13_mapNow_h51 {X : jx} {b0 : Nat × Nat} {R25 : Nat → Int32 → Int32 → Int32 → Int32 → Int32 → jh → Option (Int32 × jh)} {K25 : Nat → Int32 → Int32 → Int32 → Int32 → Int32 → jh → Option (Int32 × jh)} {K51 : Nat → Int32 → Int32 → Int32 → Int32 → Int32 → jh → Option (Int32 × jh)} (hR25 : ∀ (x0 : Nat) (x2 : Int32) (x3 : Int32) (x4 : Int32) (x5 : Int32) (x6 : Int32) (h : jh), jv_O X M_X13_mapNow b0 jeI 25 [some (.ref (x0)), none, some (.int (x2)), some (.int (x3)), some (.int (x4)), some (.int (x5)), some (.int (x6)), none] [] h (R25 x0 x2 x3 x4 x5 x6 h)) (hK25 : ∀ (x0 : Nat) (x2 : Int32) (x3 : Int32) (x4 : Int32) (x5 : Int32) (x6 : Int32) (h : jh), jv_O X M_X13_mapNow b0 jeI 101 [some (.ref (x0)), none, some (.int (x2)), some (.int (x3)), some (.int (x4)), some (.int (x5)), some (.int (x6)), none] [] h (K25 x0 x2 x3 x4 x5 x6 h)) (hK51 : ∀ (x0 : Nat) (x2 : Int32) (x3 : Int32) (x4 : Int32) (x5 : Int32) (x6 : Int32) (h : jh), jv_O X M_X13_mapNow b0 jeI 95 [some (.ref (x0)), none, some (.int (x2)), some (.int (x3)), some (.int (x4)), some (.int (x5)), some (.int (x6)), none] [] h (K51 x0 x2 x3 x4 x5 x6 h)) : ∀ (x0 : Nat) (x2 : Int32) (x3 : Int32) (x4 : Int32) (x5 : Int32) (x6 : Int32) (x7 : Int32) (h : jh), jv_O X M_X13_mapNow b0 jeI 51 [some (.ref (x0)), none, some (.int (x2)), some (.int (x3)), some (.int (x4)), some (.int (x5)), some (.int (x6)), some (.int (x7))] [] h (jlp7 (f_X13_mapNow_h51 R25 K25 K51) jfu x0 x2 x3 x4 x5 x6 x7 h) := by
  refine jlp7_ok (P := fun x0 x2 x3 x4 x5 x6 x7 h o => jv_O X M_X13_mapNow b0 jeI 51 [some (.ref (x0)), none, some (.int (x2)), some (.int (x3)), some (.int (x4)), some (.int (x5)), some (.int (x6)), some (.int (x7))] [] h o) (fun R51 hR51 => ?_) (fun _ _ _ _ _ _ _ _  => jv_none rfl) jfu
  intro x0 x2 x3 x4 x5 x6 x7 h
  unfold f_X13_mapNow_h51
  refine jv_iload (jv_dk t_X13_mapNow (k := 31) rfl) rfl ?_
  refine jv_iconst (v := 3) (jv_dk t_X13_mapNow (k := 32) rfl) (by decide) ?_
  refine jv_icmp_ge (tgt := 95) (jv_dk t_X13_mapNow (k := 33) rfl) rfl (fun c12 => ?_) (fun c12 => ?_)
  · refine jv_le_row (jv_le_s (jv_le_n (jv_le_s (jv_le_s (jv_le_s (jv_le_s (jv_le_s (jv_le_n (jv_le_nil))))))))) ?_
    exact hK51 _ _ _ _ _ _ _ 
  · show jv_O _ _ _ _ 57 _ _ _ _
    refine jv_aload_n (jv_dk t_X13_mapNow (k := 34) rfl) rfl rfl (Or.inr ⟨_, rfl⟩) ?_
    refine jv_gR (jv_dk t_X13_mapNow (k := 35) rfl) fl_X13_37 (fun v13 => ?_)
    refine jv_aload_n (jv_dk t_X13_mapNow (k := 36) rfl) rfl rfl (Or.inr ⟨_, rfl⟩) ?_
    refine jv_iload_n (jv_dk t_X13_mapNow (k := 37) rfl) rfl rfl ?_
    refine jv_iload (jv_dk t_X13_mapNow (k := 38) rfl) rfl ?_
    refine jv_callV (en' := jeI) (pv := jpI) (As := [.int (x2), .int (x6)]) (S := [.ref (v13)]) (jv_dk t_X13_mapNow (k := 39) rfl) (fun _ => rfl) (Or.inl lk_X13_224) me_X13_rangeAt mv_X13_rangeAt ⟨by decide, by decide⟩ rfl rfl rfl (Nat.le_of_ble_eq_true rfl) (P_X13_rangeAt X x0 x2 x6 h) (fun v14 h15 => ?_)
    show jv_O X M_X13_mapNow _ jeI 68 [some (.ref (x0)), none, some (.int (x2)), some (.int (x3)), some (.int (x4)), some (.int (x5)), some (.int (x6)), some (.int (x7))] [.int (v14), .ref (v13)] h15 _
    refine jv_iload (jv_dk t_X13_mapNow (k := 40) rfl) rfl ?_
    refine jv_iadd (jv_dk t_X13_mapNow (k := 41) rfl) ?_
    refine jv_aload_n (jv_dk t_X13_mapNow (k := 42) rfl) rfl rfl (Or.inr ⟨_, rfl⟩) ?_
    refine jv_gR (jv_dk t_X13_mapNow (k := 43) rfl) fl_X13_37 (fun v16 => ?_)
    refine jv_aload_n (jv_dk t_X13_mapNow (k := 44) rfl) rfl rfl (Or.inr ⟨_, rfl⟩) ?_
    refine jv_iload_n (jv_dk t_X13_mapNow (k := 45) rfl) rfl rfl ?_
    refine jv_iload (jv_dk t_X13_mapNow (k := 46) rfl) rfl ?_
    refine jv_iconst (v := 1) (jv_dk t_X13_mapNow (k := 47) rfl) (by decide) ?_
    refine jv_isub (jv_dk t_X13_mapNow (k := 48) rfl) ?_
    refine jv_callV (en' := jeI) (pv := jpI) (As := [.int (x2), .int (x6 - 1)]) (S := [.ref (v16), .int (v14 + x7), .ref (v13)]) (jv_dk t_X13_mapNow (k := 49) rfl) (fun _ => rfl) (Or.inl lk_X13_224) me_X13_rangeAt mv_X13_rangeAt ⟨by decide, by decide⟩ rfl rfl rfl (Nat.le_of_ble_eq_true rfl) (P_X13_rangeAt X x0 x2 (x6 - 1) h15) (fun v17 h18 => ?_)
    show jv_O X M_X13_mapNow _ jeI 84 [some (.ref (x0)), none, some (.int (x2)), some (.int (x3)), some (.int (x4)), some (.int (x5)), some (.int (x6)), some (.int (x7))] [.int (v17), .ref (v16), .int (v14 + x7), .ref (v13)] h18 _
    refine jv_iload (jv_dk t_X13_mapNow (k := 50) rfl) rfl ?_
    refine jv_iadd (jv_dk t_X13_mapNow (k := 51) rfl) ?_
    refine jv_iaload (jv_dk t_X13_mapNow (k := 52) rfl) (fun v19 => ?_)
    refine jv_iastore (jv_dk t_X13_mapNow (k := 53) rfl) (fun h20 => ?_)
    refine jv_iinc (v := 1) (L' := [some (.ref (x0)), none, some (.int (x2)), some (.int (x3)), some (.int (x4)), some (.int (x5)), some (.int (x6)), some (.int (x7 + 1))]) (jv_dk t_X13_mapNow (k := 54) rfl) rfl (by decide) rfl ?_
    refine jv_goto (tgt := 51) (jv_dk t_X13_mapNow (k := 55) rfl) rfl ?_
    exact hR51 _ _ _ _ _ _ _ _ 
def f_X13_mapNow_h25 (K25 : Nat → Int32 → Int32 → Int32 → Int32 → Int32 → jh → Option (Int32 × jh)) (R25 : Nat → Int32 → Int32 → Int32 → Int32 → Int32 → jh → Option (Int32 × jh)) (x0 : Nat) (x2 : Int32) (x3 : Int32) (x4 : Int32) (x5 : Int32) (x6 : Int32) (h : jh) : Option (Int32 × jh) :=
  (if x6 ≤ 0 then
  K25 x0 x2 x3 x4 x5 x6 h
  else
  gR h x0 11 2 fun v7 =>
  cV h x0 11 (f_X13_rangeAt x0 x2 (x6 - 1) h) fun v8 h9 =>
  aI h9 v7 v8 fun v10 =>
  (if v10 ≤ x3 then
  K25 x0 x2 x3 x4 x5 x6 h9
  else
  jlp7 (f_X13_mapNow_h51 R25 K25 (fun y22 y23 y24 y25 y26 y27 h21 =>
  R25 y22 y23 y24 y25 y26 (y27 + (-1)) h21)) jfu x0 x2 x3 x4 x5 x6 0 h9))
theorem o_f_X13_mapNow_h25 {X : jx} {b0 : Nat × Nat} {K25 : Nat → Int32 → Int32 → Int32 → Int32 → Int32 → jh → Option (Int32 × jh)} (hK25 : ∀ (x0 : Nat) (x2 : Int32) (x3 : Int32) (x4 : Int32) (x5 : Int32) (x6 : Int32) (h : jh), jv_O X M_X13_mapNow b0 jeI 101 [some (.ref (x0)), none, some (.int (x2)), some (.int (x3)), some (.int (x4)), some (.int (x5)), some (.int (x6)), none] [] h (K25 x0 x2 x3 x4 x5 x6 h)) : ∀ (x0 : Nat) (x2 : Int32) (x3 : Int32) (x4 : Int32) (x5 : Int32) (x6 : Int32) (h : jh), jv_O X M_X13_mapNow b0 jeI 25 [some (.ref (x0)), none, some (.int (x2)), some (.int (x3)), some (.int (x4)), some (.int (x5)), some (.int (x6)), none] [] h (jlp6 (f_X13_mapNow_h25 K25) jfu x0 x2 x3 x4 x5 x6 h) := by
  refine jlp6_ok (P := fun x0 x2 x3 x4 x5 x6 h o => jv_O X M_X13_mapNow b0 jeI 25 [some (.ref (x0)), none, some (.int (x2)), some (.int (x3)), some (.int (x4)), some (.int (x5)), some (.int (x6)), none] [] h o) (fun R25 hR25 => ?_) (fun _ _ _ _ _ _ _  => jv_none rfl) jfu
  intro x0 x2 x3 x4 x5 x6 h
  unfold f_X13_mapNow_h25
  refine jv_iload (jv_dk t_X13_mapNow (k := 16) rfl) rfl ?_
  refine jv_if_le (tgt := 101) (jv_dk t_X13_mapNow (k := 17) rfl) rfl (fun c6 => ?_) (fun c6 => ?_)
  · exact hK25 _ _ _ _ _ _ _ 
  · show jv_O _ _ _ _ 30 _ _ _ _
    refine jv_aload_n (jv_dk t_X13_mapNow (k := 18) rfl) rfl rfl (Or.inr ⟨_, rfl⟩) ?_
    refine jv_gR (jv_dk t_X13_mapNow (k := 19) rfl) fl_X13_37 (fun v7 => ?_)
    refine jv_aload_n (jv_dk t_X13_mapNow (k := 20) rfl) rfl rfl (Or.inr ⟨_, rfl⟩) ?_
    refine jv_iload_n (jv_dk t_X13_mapNow (k := 21) rfl) rfl rfl ?_
    refine jv_iload (jv_dk t_X13_mapNow (k := 22) rfl) rfl ?_
    refine jv_iconst (v := 1) (jv_dk t_X13_mapNow (k := 23) rfl) (by decide) ?_
    refine jv_isub (jv_dk t_X13_mapNow (k := 24) rfl) ?_
    refine jv_callV (en' := jeI) (pv := jpI) (As := [.int (x2), .int (x6 - 1)]) (S := [.ref (v7)]) (jv_dk t_X13_mapNow (k := 25) rfl) (fun _ => rfl) (Or.inl lk_X13_224) me_X13_rangeAt mv_X13_rangeAt ⟨by decide, by decide⟩ rfl rfl rfl (Nat.le_of_ble_eq_true rfl) (P_X13_rangeAt X x0 x2 (x6 - 1) h) (fun v8 h9 => ?_)
    show jv_O X M_X13_mapNow _ jeI 43 [some (.ref (x0)), none, some (.int (x2)), some (.int (x3)), some (.int (x4)), some (.int (x5)), some (.int (x6)), none] [.int (v8), .ref (v7)] h9 _
    refine jv_iaload (jv_dk t_X13_mapNow (k := 26) rfl) (fun v10 => ?_)
    refine jv_iload_n (jv_dk t_X13_mapNow (k := 27) rfl) rfl rfl ?_
    refine jv_icmp_le (tgt := 101) (jv_dk t_X13_mapNow (k := 28) rfl) rfl (fun c11 => ?_) (fun c11 => ?_)
    · exact hK25 _ _ _ _ _ _ _ 
    · show jv_O _ _ _ _ 48 _ _ _ _
      refine jv_iconst (v := 0) (jv_dk t_X13_mapNow (k := 29) rfl) (by decide) ?_
      refine jv_istore (L' := [some (.ref (x0)), none, some (.int (x2)), some (.int (x3)), some (.int (x4)), some (.int (x5)), some (.int (x6)), some (.int (0))]) (jv_dk t_X13_mapNow (k := 30) rfl) (Nat.le_of_ble_eq_true rfl) rfl ?_
      refine o_f_X13_mapNow_h51 hR25 hK25 (fun y22 y23 y24 y25 y26 y27 h21 => ?_) _ _ _ _ _ _ _ _ 
      show jv_O X M_X13_mapNow _ jeI 95 [some (.ref (y22)), none, some (.int (y23)), some (.int (y24)), some (.int (y25)), some (.int (y26)), some (.int (y27)), none] [] h21 _
      refine jv_iinc (v := (-1)) (L' := [some (.ref (y22)), none, some (.int (y23)), some (.int (y24)), some (.int (y25)), some (.int (y26)), some (.int (y27 + (-1))), none]) (jv_dk t_X13_mapNow (k := 56) rfl) rfl (by decide) rfl ?_
      refine jv_goto (tgt := 25) (jv_dk t_X13_mapNow (k := 57) rfl) rfl ?_
      exact hR25 _ _ _ _ _ _ _ 
def f_X13_mapNow_b101 (x0 : Nat) (x2 : Int32) (x3 : Int32) (x4 : Int32) (x5 : Int32) (x6 : Int32) (h : jh) : Option (Int32 × jh) :=
  gR h x0 11 2 fun v35 =>
  cV h x0 11 (f_X13_rangeAt x0 x2 x6 h) fun v36 h37 =>
  sI h37 v35 v36 x3 fun h38 =>
  gR h38 x0 11 2 fun v39 =>
  cV h38 x0 11 (f_X13_rangeAt x0 x2 x6 h38) fun v40 h41 =>
  sI h41 v39 (v40 + 1) x4 fun h42 =>
  gR h42 x0 11 2 fun v43 =>
  cV h42 x0 11 (f_X13_rangeAt x0 x2 x6 h42) fun v44 h45 =>
  sI h45 v43 (v44 + 2) x5 fun h46 =>
  gR h46 x0 11 2 fun v47 =>
  bd (f_X13_spaceAt 1 x2 h46) fun v48 h49 =>
  aI h49 v47 (v48 + 3) fun v50 =>
  sI h49 v47 (v48 + 3) (v50 + 1) fun h51 =>
  cV h51 x0 11 (f_X13_spaceOf x0 1 x2 3 h51) fun v52 h53 =>
  some (v52, h53)
theorem o_f_X13_mapNow_b101 {X : jx} {b0 : Nat × Nat} (x0 : Nat) (x2 : Int32) (x3 : Int32) (x4 : Int32) (x5 : Int32) (x6 : Int32) (h : jh) : jv_O X M_X13_mapNow b0 jeI 101 [some (.ref (x0)), none, some (.int (x2)), some (.int (x3)), some (.int (x4)), some (.int (x5)), some (.int (x6)), none] [] h (f_X13_mapNow_b101 x0 x2 x3 x4 x5 x6 h) := by
  unfold f_X13_mapNow_b101
  refine jv_aload_n (jv_dk t_X13_mapNow (k := 58) rfl) rfl rfl (Or.inr ⟨_, rfl⟩) ?_
  refine jv_gR (jv_dk t_X13_mapNow (k := 59) rfl) fl_X13_37 (fun v35 => ?_)
  refine jv_aload_n (jv_dk t_X13_mapNow (k := 60) rfl) rfl rfl (Or.inr ⟨_, rfl⟩) ?_
  refine jv_iload_n (jv_dk t_X13_mapNow (k := 61) rfl) rfl rfl ?_
  refine jv_iload (jv_dk t_X13_mapNow (k := 62) rfl) rfl ?_
  refine jv_callV (en' := jeI) (pv := jpI) (As := [.int (x2), .int (x6)]) (S := [.ref (v35)]) (jv_dk t_X13_mapNow (k := 63) rfl) (fun _ => rfl) (Or.inl lk_X13_224) me_X13_rangeAt mv_X13_rangeAt ⟨by decide, by decide⟩ rfl rfl rfl (Nat.le_of_ble_eq_true rfl) (P_X13_rangeAt X x0 x2 x6 h) (fun v36 h37 => ?_)
  show jv_O X M_X13_mapNow _ jeI 112 [some (.ref (x0)), none, some (.int (x2)), some (.int (x3)), some (.int (x4)), some (.int (x5)), some (.int (x6)), none] [.int (v36), .ref (v35)] h37 _
  refine jv_iload_n (jv_dk t_X13_mapNow (k := 64) rfl) rfl rfl ?_
  refine jv_iastore (jv_dk t_X13_mapNow (k := 65) rfl) (fun h38 => ?_)
  refine jv_aload_n (jv_dk t_X13_mapNow (k := 66) rfl) rfl rfl (Or.inr ⟨_, rfl⟩) ?_
  refine jv_gR (jv_dk t_X13_mapNow (k := 67) rfl) fl_X13_37 (fun v39 => ?_)
  refine jv_aload_n (jv_dk t_X13_mapNow (k := 68) rfl) rfl rfl (Or.inr ⟨_, rfl⟩) ?_
  refine jv_iload_n (jv_dk t_X13_mapNow (k := 69) rfl) rfl rfl ?_
  refine jv_iload (jv_dk t_X13_mapNow (k := 70) rfl) rfl ?_
  refine jv_callV (en' := jeI) (pv := jpI) (As := [.int (x2), .int (x6)]) (S := [.ref (v39)]) (jv_dk t_X13_mapNow (k := 71) rfl) (fun _ => rfl) (Or.inl lk_X13_224) me_X13_rangeAt mv_X13_rangeAt ⟨by decide, by decide⟩ rfl rfl rfl (Nat.le_of_ble_eq_true rfl) (P_X13_rangeAt X x0 x2 x6 h38) (fun v40 h41 => ?_)
  show jv_O X M_X13_mapNow _ jeI 125 [some (.ref (x0)), none, some (.int (x2)), some (.int (x3)), some (.int (x4)), some (.int (x5)), some (.int (x6)), none] [.int (v40), .ref (v39)] h41 _
  refine jv_iconst (v := 1) (jv_dk t_X13_mapNow (k := 72) rfl) (by decide) ?_
  refine jv_iadd (jv_dk t_X13_mapNow (k := 73) rfl) ?_
  refine jv_iload (jv_dk t_X13_mapNow (k := 74) rfl) rfl ?_
  refine jv_iastore (jv_dk t_X13_mapNow (k := 75) rfl) (fun h42 => ?_)
  refine jv_aload_n (jv_dk t_X13_mapNow (k := 76) rfl) rfl rfl (Or.inr ⟨_, rfl⟩) ?_
  refine jv_gR (jv_dk t_X13_mapNow (k := 77) rfl) fl_X13_37 (fun v43 => ?_)
  refine jv_aload_n (jv_dk t_X13_mapNow (k := 78) rfl) rfl rfl (Or.inr ⟨_, rfl⟩) ?_
  refine jv_iload_n (jv_dk t_X13_mapNow (k := 79) rfl) rfl rfl ?_
  refine jv_iload (jv_dk t_X13_mapNow (k := 80) rfl) rfl ?_
  refine jv_callV (en' := jeI) (pv := jpI) (As := [.int (x2), .int (x6)]) (S := [.ref (v43)]) (jv_dk t_X13_mapNow (k := 81) rfl) (fun _ => rfl) (Or.inl lk_X13_224) me_X13_rangeAt mv_X13_rangeAt ⟨by decide, by decide⟩ rfl rfl rfl (Nat.le_of_ble_eq_true rfl) (P_X13_rangeAt X x0 x2 x6 h42) (fun v44 h45 => ?_)
  show jv_O X M_X13_mapNow _ jeI 141 [some (.ref (x0)), none, some (.int (x2)), some (.int (x3)), some (.int (x4)), some (.int (x5)), some (.int (x6)), none] [.int (v44), .ref (v43)] h45 _
  refine jv_iconst (v := 2) (jv_dk t_X13_mapNow (k := 82) rfl) (by decide) ?_
  refine jv_iadd (jv_dk t_X13_mapNow (k := 83) rfl) ?_
  refine jv_iload (jv_dk t_X13_mapNow (k := 84) rfl) rfl ?_
  refine jv_iastore (jv_dk t_X13_mapNow (k := 85) rfl) (fun h46 => ?_)
  refine jv_aload_n (jv_dk t_X13_mapNow (k := 86) rfl) rfl rfl (Or.inr ⟨_, rfl⟩) ?_
  refine jv_gR (jv_dk t_X13_mapNow (k := 87) rfl) fl_X13_37 (fun v47 => ?_)
  refine jv_iconst (v := 1) (jv_dk t_X13_mapNow (k := 88) rfl) (by decide) ?_
  refine jv_iload_n (jv_dk t_X13_mapNow (k := 89) rfl) rfl rfl ?_
  refine jv_callS (en' := jeI) (pv := jpI) (As := [.int (1), .int (x2)]) (S := [.ref (v47)]) (jv_dk t_X13_mapNow (k := 90) rfl) (fun _ => rfl) (Or.inl lk_X13_99) me_X13_spaceAt ms_X13_spaceAt ⟨by decide, by decide⟩ rfl rfl (Nat.le_of_ble_eq_true rfl) (P_X13_spaceAt X 1 x2 h46) (fun v48 h49 => ?_)
  show jv_O X M_X13_mapNow _ jeI 155 [some (.ref (x0)), none, some (.int (x2)), some (.int (x3)), some (.int (x4)), some (.int (x5)), some (.int (x6)), none] [.int (v48), .ref (v47)] h49 _
  refine jv_iconst (v := 3) (jv_dk t_X13_mapNow (k := 91) rfl) (by decide) ?_
  refine jv_iadd (jv_dk t_X13_mapNow (k := 92) rfl) ?_
  refine jv_dup2 (jv_dk t_X13_mapNow (k := 93) rfl) rfl rfl ?_
  refine jv_iaload (jv_dk t_X13_mapNow (k := 94) rfl) (fun v50 => ?_)
  refine jv_iconst (v := 1) (jv_dk t_X13_mapNow (k := 95) rfl) (by decide) ?_
  refine jv_iadd (jv_dk t_X13_mapNow (k := 96) rfl) ?_
  refine jv_iastore (jv_dk t_X13_mapNow (k := 97) rfl) (fun h51 => ?_)
  refine jv_aload_n (jv_dk t_X13_mapNow (k := 98) rfl) rfl rfl (Or.inr ⟨_, rfl⟩) ?_
  refine jv_iconst (v := 1) (jv_dk t_X13_mapNow (k := 99) rfl) (by decide) ?_
  refine jv_iload_n (jv_dk t_X13_mapNow (k := 100) rfl) rfl rfl ?_
  refine jv_iconst (v := 3) (jv_dk t_X13_mapNow (k := 101) rfl) (by decide) ?_
  refine jv_callV (en' := jeI) (pv := jpI) (As := [.int (1), .int (x2), .int (3)]) (S := []) (jv_dk t_X13_mapNow (k := 102) rfl) (fun _ => rfl) (Or.inl lk_X13_217) me_X13_spaceOf mv_X13_spaceOf ⟨by decide, by decide⟩ rfl rfl rfl (Nat.le_of_ble_eq_true rfl) (P_X13_spaceOf X x0 1 x2 3 h51) (fun v52 h53 => ?_)
  show jv_O X M_X13_mapNow _ jeI 169 [some (.ref (x0)), none, some (.int (x2)), some (.int (x3)), some (.int (x4)), some (.int (x5)), some (.int (x6)), none] [.int (v52)] h53 _
  exact jv_iret (ty := .int) (jv_dk t_X13_mapNow (k := 103) rfl) rfl rfl rfl
def f_X13_mapNow (a0 : Nat) (a1 : Int32) (a2 : Int32) (a3 : Int32) (a4 : Int32) (a5 : Int32) (h : jh) : Option (Int32 × jh) :=
  cV h a0 11 (f_X13_canMap a0 a1 a2 a3 a4 a5 h) fun v1 h2 =>
  (if ¬ v1 = 0 then
  cV h2 a0 11 (f_X13_spaceOf a0 1 a2 3 h2) fun v4 h5 =>
  jlp6 (f_X13_mapNow_h25 (fun y29 y30 y31 y32 y33 y34 h28 =>
  f_X13_mapNow_b101 y29 y30 y31 y32 y33 y34 h28)) jfu a0 a2 a3 a4 a5 v4 h5
  else
  some ((-1), h2))
theorem P_X13_mapNow (X : jx) (a0 : Nat) (a1 : Int32) (a2 : Int32) (a3 : Int32) (a4 : Int32) (a5 : Int32) (h : jh) : jv_P X M_X13_mapNow jeI [.ref (a0), .int (a1), .int (a2), .int (a3), .int (a4), .int (a5)] h (f_X13_mapNow a0 a1 a2 a3 a4 a5 h) := by
  refine jv_P.of (by decide) rfl (by simp [Value.category]) (Nat.le_of_ble_eq_true rfl) ?_
  show jv_O X M_X13_mapNow (h.1, h.2.1) jeI 0 [some (.ref (a0)), some (.int (a1)), some (.int (a2)), some (.int (a3)), some (.int (a4)), some (.int (a5)), none, none] [] h (f_X13_mapNow a0 a1 a2 a3 a4 a5 h)
  unfold f_X13_mapNow
  refine jv_aload_n (jv_dk t_X13_mapNow (k := 0) rfl) rfl rfl (Or.inr ⟨_, rfl⟩) ?_
  refine jv_iload_n (jv_dk t_X13_mapNow (k := 1) rfl) rfl rfl ?_
  refine jv_iload_n (jv_dk t_X13_mapNow (k := 2) rfl) rfl rfl ?_
  refine jv_iload_n (jv_dk t_X13_mapNow (k := 3) rfl) rfl rfl ?_
  refine jv_iload (jv_dk t_X13_mapNow (k := 4) rfl) rfl ?_
  refine jv_iload (jv_dk t_X13_mapNow (k := 5) rfl) rfl ?_
  refine jv_callV (en' := jeI) (pv := jpI) (As := [.int (a1), .int (a2), .int (a3), .int (a4), .int (a5)]) (S := []) (jv_dk t_X13_mapNow (k := 6) rfl) (fun _ => rfl) (Or.inl lk_X13_270) me_X13_canMap mv_X13_canMap ⟨by decide, by decide⟩ rfl rfl rfl (Nat.le_of_ble_eq_true rfl) (P_X13_canMap X a0 a1 a2 a3 a4 a5 h) (fun v1 h2 => ?_)
  show jv_O X M_X13_mapNow _ jeI 11 [some (.ref (a0)), some (.int (a1)), some (.int (a2)), some (.int (a3)), some (.int (a4)), some (.int (a5)), none, none] [.int (v1)] h2 _
  refine jv_if_ne (tgt := 16) (jv_dk t_X13_mapNow (k := 7) rfl) rfl (fun c3 => ?_) (fun c3 => ?_)
  · refine jv_aload_n (jv_dk t_X13_mapNow (k := 10) rfl) rfl rfl (Or.inr ⟨_, rfl⟩) ?_
    refine jv_iconst (v := 1) (jv_dk t_X13_mapNow (k := 11) rfl) (by decide) ?_
    refine jv_iload_n (jv_dk t_X13_mapNow (k := 12) rfl) rfl rfl ?_
    refine jv_iconst (v := 3) (jv_dk t_X13_mapNow (k := 13) rfl) (by decide) ?_
    refine jv_callV (en' := jeI) (pv := jpI) (As := [.int (1), .int (a2), .int (3)]) (S := []) (jv_dk t_X13_mapNow (k := 14) rfl) (fun _ => rfl) (Or.inl lk_X13_217) me_X13_spaceOf mv_X13_spaceOf ⟨by decide, by decide⟩ rfl rfl rfl (Nat.le_of_ble_eq_true rfl) (P_X13_spaceOf X a0 1 a2 3 h2) (fun v4 h5 => ?_)
    show jv_O X M_X13_mapNow _ jeI 23 [some (.ref (a0)), some (.int (a1)), some (.int (a2)), some (.int (a3)), some (.int (a4)), some (.int (a5)), none, none] [.int (v4)] h5 _
    refine jv_istore (L' := [some (.ref (a0)), some (.int (a1)), some (.int (a2)), some (.int (a3)), some (.int (a4)), some (.int (a5)), some (.int (v4)), none]) (jv_dk t_X13_mapNow (k := 15) rfl) (Nat.le_of_ble_eq_true rfl) rfl ?_
    refine jv_le_row (jv_le_s (jv_le_n (jv_le_s (jv_le_s (jv_le_s (jv_le_s (jv_le_s (jv_le_n (jv_le_nil))))))))) ?_
    refine o_f_X13_mapNow_h25 (fun y29 y30 y31 y32 y33 y34 h28 => ?_) _ _ _ _ _ _ _ 
    show jv_O X M_X13_mapNow _ jeI 101 [some (.ref (y29)), none, some (.int (y30)), some (.int (y31)), some (.int (y32)), some (.int (y33)), some (.int (y34)), none] [] h28 _
    exact o_f_X13_mapNow_b101 _ _ _ _ _ _ _ 
  · show jv_O _ _ _ _ 14 _ _ _ _
    refine jv_iconst (v := (-1)) (jv_dk t_X13_mapNow (k := 8) rfl) (by decide) ?_
    exact jv_iret (ty := .int) (jv_dk t_X13_mapNow (k := 9) rfl) rfl rfl rfl
def t0_X13_becomeNow : List (Nat × Instr × Nat) := [(0, .iload_n 2, 1), (1, .iconst 0, 1), (2, .bipush 99, 2), (4, .invokestatic 169, 3), (7, .ifCond .eq 17, 3), (10, .aload_n 0, 1), (11, .aload_n 0, 1), (12, .iload_n 1, 1), (13, .iconst 3, 1), (14, .invokevirtual 205, 3), (17, .iload_n 2, 1), (18, .invokevirtual 261, 3), (21, .goto 5, 3), (24, .ldc 227, 2), (26, .istore_n 3, 1), (27, .aload_n 0, 1), (28, .iload_n 1, 1), (29, .bipush 7, 2), (31, .invokevirtual 205, 3), (34, .ifCond .eq 9, 3), (37, .iload_n 3, 1), (38, .ldc 227, 2), (40, .if_icmp .ne 5, 3), (43, .iconst (-1), 1), (44, .ireturn, 1), (45, .aload_n 0, 1), (46, .getfield 37, 3), (49, .iload_n 1, 1), (50, .bipush 6, 2), (52, .invokestatic 248, 3), (55, .iload_n 3, 1), (56, .iastore, 1), (57, .aload_n 0, 1), (58, .getfield 37, 3), (61, .iload_n 1, 1), (62, .bipush 7, 2), (64, .invokestatic 248, 3), (67, .iload_n 2, 1), (68, .ifCond .ne 7, 3), (71, .iconst 1, 1), (72, .goto 4, 3), (75, .iconst 0, 1), (76, .iastore, 1), (77, .iload_n 3, 1), (78, .ireturn, 1)]
theorem t_X13_becomeNow : jv_dec cX13_becomeNow t0_X13_becomeNow = true := by decide +kernel
def M_X13_becomeNow : jm := (yX13_becomeNow, cX13_becomeNow, 4, (some .int), 4, 92, [])
def f_X13_becomeNow_b26 (x0 : Nat) (x1 : Int32) (x2 : Int32) (s0 : Int32) (h : jh) : Option (Int32 × jh) :=
  cV h x0 11 (f_X13_of x0 x1 7 h) fun v4 h5 =>
  (if v4 = 0 then
  some ((-1), h5)
  else
  (if ¬ s0 = 65534 then
  gR h5 x0 11 2 fun v8 =>
  bd (f_X13_processAt x1 6 h5) fun v9 h10 =>
  sI h10 v8 v9 s0 fun h11 =>
  gR h11 x0 11 2 fun v12 =>
  bd (f_X13_processAt x1 7 h11) fun v13 h14 =>
  (if ¬ x2 = 0 then
  sI h14 v12 v13 0 fun h16 =>
  some (s0, h16)
  else
  sI h14 v12 v13 1 fun h17 =>
  some (s0, h17))
  else
  some ((-1), h5)))
theorem o_f_X13_becomeNow_b26 {X : jx} {b0 : Nat × Nat} (x0 : Nat) (x1 : Int32) (x2 : Int32) (s0 : Int32) (h : jh) : jv_O X M_X13_becomeNow b0 jeI 26 [some (.ref (x0)), some (.int (x1)), some (.int (x2)), none] [.int (s0)] h (f_X13_becomeNow_b26 x0 x1 x2 s0 h) := by
  unfold f_X13_becomeNow_b26
  refine jv_istore_n (L' := [some (.ref (x0)), some (.int (x1)), some (.int (x2)), some (.int (s0))]) (jv_dk t_X13_becomeNow (k := 14) rfl) rfl (Nat.le_of_ble_eq_true rfl) rfl ?_
  refine jv_aload_n (jv_dk t_X13_becomeNow (k := 15) rfl) rfl rfl (Or.inr ⟨_, rfl⟩) ?_
  refine jv_iload_n (jv_dk t_X13_becomeNow (k := 16) rfl) rfl rfl ?_
  refine jv_bipush (v := 7) (jv_dk t_X13_becomeNow (k := 17) rfl) (by decide) ?_
  refine jv_callV (en' := jeI) (pv := jpI) (As := [.int (x1), .int (7)]) (S := []) (jv_dk t_X13_becomeNow (k := 18) rfl) (fun _ => rfl) (Or.inl lk_X13_205) me_X13_of mv_X13_of ⟨by decide, by decide⟩ rfl rfl rfl (Nat.le_of_ble_eq_true rfl) (P_X13_of X x0 x1 7 h) (fun v4 h5 => ?_)
  show jv_O X M_X13_becomeNow _ jeI 34 [some (.ref (x0)), some (.int (x1)), some (.int (x2)), some (.int (s0))] [.int (v4)] h5 _
  refine jv_if_eq (tgt := 43) (jv_dk t_X13_becomeNow (k := 19) rfl) rfl (fun c6 => ?_) (fun c6 => ?_)
  · refine jv_iconst (v := (-1)) (jv_dk t_X13_becomeNow (k := 23) rfl) (by decide) ?_
    exact jv_iret (ty := .int) (jv_dk t_X13_becomeNow (k := 24) rfl) rfl rfl rfl
  · show jv_O _ _ _ _ 37 _ _ _ _
    refine jv_iload_n (jv_dk t_X13_becomeNow (k := 20) rfl) rfl rfl ?_
    refine jv_ldc (jv_dk t_X13_becomeNow (k := 21) rfl) cn_X13_227 ?_
    refine jv_icmp_ne (tgt := 45) (jv_dk t_X13_becomeNow (k := 22) rfl) rfl (fun c7 => ?_) (fun c7 => ?_)
    · refine jv_aload_n (jv_dk t_X13_becomeNow (k := 25) rfl) rfl rfl (Or.inr ⟨_, rfl⟩) ?_
      refine jv_gR (jv_dk t_X13_becomeNow (k := 26) rfl) fl_X13_37 (fun v8 => ?_)
      refine jv_iload_n (jv_dk t_X13_becomeNow (k := 27) rfl) rfl rfl ?_
      refine jv_bipush (v := 6) (jv_dk t_X13_becomeNow (k := 28) rfl) (by decide) ?_
      refine jv_callS (en' := jeI) (pv := jpI) (As := [.int (x1), .int (6)]) (S := [.ref (v8)]) (jv_dk t_X13_becomeNow (k := 29) rfl) (fun _ => rfl) (Or.inl lk_X13_248) me_X13_processAt ms_X13_processAt ⟨by decide, by decide⟩ rfl rfl (Nat.le_of_ble_eq_true rfl) (P_X13_processAt X x1 6 h5) (fun v9 h10 => ?_)
      show jv_O X M_X13_becomeNow _ jeI 55 [some (.ref (x0)), some (.int (x1)), some (.int (x2)), some (.int (s0))] [.int (v9), .ref (v8)] h10 _
      refine jv_iload_n (jv_dk t_X13_becomeNow (k := 30) rfl) rfl rfl ?_
      refine jv_iastore (jv_dk t_X13_becomeNow (k := 31) rfl) (fun h11 => ?_)
      refine jv_aload_n (jv_dk t_X13_becomeNow (k := 32) rfl) rfl rfl (Or.inr ⟨_, rfl⟩) ?_
      refine jv_gR (jv_dk t_X13_becomeNow (k := 33) rfl) fl_X13_37 (fun v12 => ?_)
      refine jv_iload_n (jv_dk t_X13_becomeNow (k := 34) rfl) rfl rfl ?_
      refine jv_bipush (v := 7) (jv_dk t_X13_becomeNow (k := 35) rfl) (by decide) ?_
      refine jv_callS (en' := jeI) (pv := jpI) (As := [.int (x1), .int (7)]) (S := [.ref (v12)]) (jv_dk t_X13_becomeNow (k := 36) rfl) (fun _ => rfl) (Or.inl lk_X13_248) me_X13_processAt ms_X13_processAt ⟨by decide, by decide⟩ rfl rfl (Nat.le_of_ble_eq_true rfl) (P_X13_processAt X x1 7 h11) (fun v13 h14 => ?_)
      show jv_O X M_X13_becomeNow _ jeI 67 [some (.ref (x0)), some (.int (x1)), some (.int (x2)), some (.int (s0))] [.int (v13), .ref (v12)] h14 _
      refine jv_iload_n (jv_dk t_X13_becomeNow (k := 37) rfl) rfl rfl ?_
      refine jv_if_ne (tgt := 75) (jv_dk t_X13_becomeNow (k := 38) rfl) rfl (fun c15 => ?_) (fun c15 => ?_)
      · refine jv_iconst (v := 0) (jv_dk t_X13_becomeNow (k := 41) rfl) (by decide) ?_
        refine jv_iastore (jv_dk t_X13_becomeNow (k := 42) rfl) (fun h16 => ?_)
        refine jv_iload_n (jv_dk t_X13_becomeNow (k := 43) rfl) rfl rfl ?_
        exact jv_iret (ty := .int) (jv_dk t_X13_becomeNow (k := 44) rfl) rfl rfl rfl
      · show jv_O _ _ _ _ 71 _ _ _ _
        refine jv_iconst (v := 1) (jv_dk t_X13_becomeNow (k := 39) rfl) (by decide) ?_
        refine jv_goto (tgt := 76) (jv_dk t_X13_becomeNow (k := 40) rfl) rfl ?_
        refine jv_iastore (jv_dk t_X13_becomeNow (k := 42) rfl) (fun h17 => ?_)
        refine jv_iload_n (jv_dk t_X13_becomeNow (k := 43) rfl) rfl rfl ?_
        exact jv_iret (ty := .int) (jv_dk t_X13_becomeNow (k := 44) rfl) rfl rfl rfl
    · show jv_O _ _ _ _ 43 _ _ _ _
      refine jv_iconst (v := (-1)) (jv_dk t_X13_becomeNow (k := 23) rfl) (by decide) ?_
      exact jv_iret (ty := .int) (jv_dk t_X13_becomeNow (k := 24) rfl) rfl rfl rfl
def f_X13_becomeNow (a0 : Nat) (a1 : Int32) (a2 : Int32) (h : jh) : Option (Int32 × jh) :=
  bd (f_X13_isIn a2 0 99 h) fun v1 h2 =>
  (if v1 = 0 then
  f_X13_becomeNow_b26 a0 a1 a2 65534 h2
  else
  cV h2 a0 11 (f_X13_of a0 a1 3 h2) fun v18 h19 =>
  cV h19 a0 11 (f_X13_toRoot a0 v18 a2 h19) fun v20 h21 =>
  f_X13_becomeNow_b26 a0 a1 a2 v20 h21)
theorem P_X13_becomeNow (X : jx) (a0 : Nat) (a1 : Int32) (a2 : Int32) (h : jh) : jv_P X M_X13_becomeNow jeI [.ref (a0), .int (a1), .int (a2)] h (f_X13_becomeNow a0 a1 a2 h) := by
  refine jv_P.of (by decide) rfl (by simp [Value.category]) (Nat.le_of_ble_eq_true rfl) ?_
  show jv_O X M_X13_becomeNow (h.1, h.2.1) jeI 0 [some (.ref (a0)), some (.int (a1)), some (.int (a2)), none] [] h (f_X13_becomeNow a0 a1 a2 h)
  unfold f_X13_becomeNow
  refine jv_iload_n (jv_dk t_X13_becomeNow (k := 0) rfl) rfl rfl ?_
  refine jv_iconst (v := 0) (jv_dk t_X13_becomeNow (k := 1) rfl) (by decide) ?_
  refine jv_bipush (v := 99) (jv_dk t_X13_becomeNow (k := 2) rfl) (by decide) ?_
  refine jv_callS (en' := jeI) (pv := jpI) (As := [.int (a2), .int (0), .int (99)]) (S := []) (jv_dk t_X13_becomeNow (k := 3) rfl) (fun _ => rfl) (Or.inl lk_X13_169) me_X13_isIn ms_X13_isIn ⟨by decide, by decide⟩ rfl rfl (Nat.le_of_ble_eq_true rfl) (P_X13_isIn X a2 0 99 h) (fun v1 h2 => ?_)
  show jv_O X M_X13_becomeNow _ jeI 7 [some (.ref (a0)), some (.int (a1)), some (.int (a2)), none] [.int (v1)] h2 _
  refine jv_if_eq (tgt := 24) (jv_dk t_X13_becomeNow (k := 4) rfl) rfl (fun c3 => ?_) (fun c3 => ?_)
  · refine jv_ldc (jv_dk t_X13_becomeNow (k := 13) rfl) cn_X13_227 ?_
    exact o_f_X13_becomeNow_b26 _ _ _ _ _ 
  · show jv_O _ _ _ _ 10 _ _ _ _
    refine jv_aload_n (jv_dk t_X13_becomeNow (k := 5) rfl) rfl rfl (Or.inr ⟨_, rfl⟩) ?_
    refine jv_aload_n (jv_dk t_X13_becomeNow (k := 6) rfl) rfl rfl (Or.inr ⟨_, rfl⟩) ?_
    refine jv_iload_n (jv_dk t_X13_becomeNow (k := 7) rfl) rfl rfl ?_
    refine jv_iconst (v := 3) (jv_dk t_X13_becomeNow (k := 8) rfl) (by decide) ?_
    refine jv_callV (en' := jeI) (pv := jpI) (As := [.int (a1), .int (3)]) (S := [.ref (a0)]) (jv_dk t_X13_becomeNow (k := 9) rfl) (fun _ => rfl) (Or.inl lk_X13_205) me_X13_of mv_X13_of ⟨by decide, by decide⟩ rfl rfl rfl (Nat.le_of_ble_eq_true rfl) (P_X13_of X a0 a1 3 h2) (fun v18 h19 => ?_)
    show jv_O X M_X13_becomeNow _ jeI 17 [some (.ref (a0)), some (.int (a1)), some (.int (a2)), none] [.int (v18), .ref (a0)] h19 _
    refine jv_iload_n (jv_dk t_X13_becomeNow (k := 10) rfl) rfl rfl ?_
    refine jv_callV (en' := jeI) (pv := jpI) (As := [.int (v18), .int (a2)]) (S := []) (jv_dk t_X13_becomeNow (k := 11) rfl) (fun _ => rfl) (Or.inl lk_X13_261) me_X13_toRoot mv_X13_toRoot ⟨by decide, by decide⟩ rfl rfl rfl (Nat.le_of_ble_eq_true rfl) (P_X13_toRoot X a0 v18 a2 h19) (fun v20 h21 => ?_)
    show jv_O X M_X13_becomeNow _ jeI 21 [some (.ref (a0)), some (.int (a1)), some (.int (a2)), none] [.int (v20)] h21 _
    refine jv_goto (tgt := 26) (jv_dk t_X13_becomeNow (k := 12) rfl) rfl ?_
    exact o_f_X13_becomeNow_b26 _ _ _ _ _ 
def t0_X13_spreads : List (Nat × Instr × Nat) := [(0, .iconst 1, 1), (1, .iload_n 1, 1), (2, .ishl, 1), (3, .istore_n 2, 1), (4, .iload_n 1, 1), (5, .istore_n 3, 1), (6, .iload_n 3, 1), (7, .aload_n 0, 1), (8, .iconst 2, 1), (9, .invokevirtual 208, 3), (12, .if_icmp .ge 51, 3), (15, .aload_n 0, 1), (16, .iconst 2, 1), (17, .iload_n 3, 1), (18, .iconst 0, 1), (19, .invokevirtual 217, 3), (22, .istore 4, 2), (24, .iload_n 3, 1), (25, .iload_n 1, 1), (26, .if_icmp .le 31, 3), (29, .iload_n 2, 1), (30, .iload 4, 2), (32, .ishr, 1), (33, .iconst 1, 1), (34, .iand, 1), (35, .iconst 1, 1), (36, .if_icmp .ne 21, 3), (39, .aload_n 0, 1), (40, .iconst 2, 1), (41, .iload 4, 2), (43, .iconst 3, 1), (44, .invokevirtual 217, 3), (47, .iconst 1, 1), (48, .if_icmp .ne 9, 3), (51, .iload_n 2, 1), (52, .iconst 1, 1), (53, .iload_n 3, 1), (54, .ishl, 1), (55, .ior, 1), (56, .istore_n 2, 1), (57, .iinc 3 1, 3), (60, .goto (-54), 3), (63, .iload_n 2, 1), (64, .ireturn, 1)]
theorem t_X13_spreads : jv_dec cX13_spreads t0_X13_spreads = true := by decide +kernel
def M_X13_spreads : jm := (yX13_spreads, cX13_spreads, 5, (some .int), 2, 44, [])
def f_X13_spreads_h6 (K6 : Int32 → jh → Option (Int32 × jh)) (R6 : Nat → Int32 → Int32 → Int32 → jh → Option (Int32 × jh)) (x0 : Nat) (x1 : Int32) (x2 : Int32) (x3 : Int32) (h : jh) : Option (Int32 × jh) :=
  cV h x0 11 (f_X13_many x0 2 h) fun v1 h2 =>
  (if v1 ≤ x3 then
  K6 x2 h2
  else
  cV h2 x0 11 (f_X13_spaceOf x0 2 x3 0 h2) fun v4 h5 =>
  (if x3 ≤ x1 then
  R6 x0 x1 x2 (x3 + 1) h5
  else
  (if ¬ ((x2 >>> (v4 &&& 31)) &&& 1) = 1 then
  R6 x0 x1 x2 (x3 + 1) h5
  else
  cV h5 x0 11 (f_X13_spaceOf x0 2 v4 3 h5) fun v8 h9 =>
  (if ¬ v8 = 1 then
  R6 x0 x1 x2 (x3 + 1) h9
  else
  R6 x0 x1 (x2 ||| (1 <<< (x3 &&& 31))) (x3 + 1) h9))))
theorem o_f_X13_spreads_h6 {X : jx} {b0 : Nat × Nat} {K6 : Int32 → jh → Option (Int32 × jh)} (hK6 : ∀ (x2 : Int32) (h : jh), jv_O X M_X13_spreads b0 jeI 63 [none, none, some (.int (x2)), none, none] [] h (K6 x2 h)) : ∀ (x0 : Nat) (x1 : Int32) (x2 : Int32) (x3 : Int32) (h : jh), jv_O X M_X13_spreads b0 jeI 6 [some (.ref (x0)), some (.int (x1)), some (.int (x2)), some (.int (x3)), none] [] h (jlp4 (f_X13_spreads_h6 K6) jfu x0 x1 x2 x3 h) := by
  refine jlp4_ok (P := fun x0 x1 x2 x3 h o => jv_O X M_X13_spreads b0 jeI 6 [some (.ref (x0)), some (.int (x1)), some (.int (x2)), some (.int (x3)), none] [] h o) (fun R6 hR6 => ?_) (fun _ _ _ _ _  => jv_none rfl) jfu
  intro x0 x1 x2 x3 h
  unfold f_X13_spreads_h6
  refine jv_iload_n (jv_dk t_X13_spreads (k := 6) rfl) rfl rfl ?_
  refine jv_aload_n (jv_dk t_X13_spreads (k := 7) rfl) rfl rfl (Or.inr ⟨_, rfl⟩) ?_
  refine jv_iconst (v := 2) (jv_dk t_X13_spreads (k := 8) rfl) (by decide) ?_
  refine jv_callV (en' := jeI) (pv := jpI) (As := [.int (2)]) (S := [.int (x3)]) (jv_dk t_X13_spreads (k := 9) rfl) (fun _ => rfl) (Or.inl lk_X13_208) me_X13_many mv_X13_many ⟨by decide, by decide⟩ rfl rfl rfl (Nat.le_of_ble_eq_true rfl) (P_X13_many X x0 2 h) (fun v1 h2 => ?_)
  show jv_O X M_X13_spreads _ jeI 12 [some (.ref (x0)), some (.int (x1)), some (.int (x2)), some (.int (x3)), none] [.int (v1), .int (x3)] h2 _
  refine jv_icmp_ge (tgt := 63) (jv_dk t_X13_spreads (k := 10) rfl) rfl (fun c3 => ?_) (fun c3 => ?_)
  · refine jv_le_row (jv_le_n (jv_le_n (jv_le_s (jv_le_n (jv_le_n (jv_le_nil)))))) ?_
    exact hK6 _ _ 
  · show jv_O _ _ _ _ 15 _ _ _ _
    refine jv_aload_n (jv_dk t_X13_spreads (k := 11) rfl) rfl rfl (Or.inr ⟨_, rfl⟩) ?_
    refine jv_iconst (v := 2) (jv_dk t_X13_spreads (k := 12) rfl) (by decide) ?_
    refine jv_iload_n (jv_dk t_X13_spreads (k := 13) rfl) rfl rfl ?_
    refine jv_iconst (v := 0) (jv_dk t_X13_spreads (k := 14) rfl) (by decide) ?_
    refine jv_callV (en' := jeI) (pv := jpI) (As := [.int (2), .int (x3), .int (0)]) (S := []) (jv_dk t_X13_spreads (k := 15) rfl) (fun _ => rfl) (Or.inl lk_X13_217) me_X13_spaceOf mv_X13_spaceOf ⟨by decide, by decide⟩ rfl rfl rfl (Nat.le_of_ble_eq_true rfl) (P_X13_spaceOf X x0 2 x3 0 h2) (fun v4 h5 => ?_)
    show jv_O X M_X13_spreads _ jeI 22 [some (.ref (x0)), some (.int (x1)), some (.int (x2)), some (.int (x3)), none] [.int (v4)] h5 _
    refine jv_istore (L' := [some (.ref (x0)), some (.int (x1)), some (.int (x2)), some (.int (x3)), some (.int (v4))]) (jv_dk t_X13_spreads (k := 16) rfl) (Nat.le_of_ble_eq_true rfl) rfl ?_
    refine jv_iload_n (jv_dk t_X13_spreads (k := 17) rfl) rfl rfl ?_
    refine jv_iload_n (jv_dk t_X13_spreads (k := 18) rfl) rfl rfl ?_
    refine jv_icmp_le (tgt := 57) (jv_dk t_X13_spreads (k := 19) rfl) rfl (fun c6 => ?_) (fun c6 => ?_)
    · refine jv_iinc (v := 1) (L' := [some (.ref (x0)), some (.int (x1)), some (.int (x2)), some (.int (x3 + 1)), some (.int (v4))]) (jv_dk t_X13_spreads (k := 40) rfl) rfl (by decide) rfl ?_
      refine jv_goto (tgt := 6) (jv_dk t_X13_spreads (k := 41) rfl) rfl ?_
      refine jv_le_row (jv_le_s (jv_le_s (jv_le_s (jv_le_s (jv_le_n (jv_le_nil)))))) ?_
      exact hR6 _ _ _ _ _ 
    · show jv_O _ _ _ _ 29 _ _ _ _
      refine jv_iload_n (jv_dk t_X13_spreads (k := 20) rfl) rfl rfl ?_
      refine jv_iload (jv_dk t_X13_spreads (k := 21) rfl) rfl ?_
      refine jv_ishr (jv_dk t_X13_spreads (k := 22) rfl) ?_
      refine jv_iconst (v := 1) (jv_dk t_X13_spreads (k := 23) rfl) (by decide) ?_
      refine jv_iand (jv_dk t_X13_spreads (k := 24) rfl) ?_
      refine jv_iconst (v := 1) (jv_dk t_X13_spreads (k := 25) rfl) (by decide) ?_
      refine jv_icmp_ne (tgt := 57) (jv_dk t_X13_spreads (k := 26) rfl) rfl (fun c7 => ?_) (fun c7 => ?_)
      · refine jv_iinc (v := 1) (L' := [some (.ref (x0)), some (.int (x1)), some (.int (x2)), some (.int (x3 + 1)), some (.int (v4))]) (jv_dk t_X13_spreads (k := 40) rfl) rfl (by decide) rfl ?_
        refine jv_goto (tgt := 6) (jv_dk t_X13_spreads (k := 41) rfl) rfl ?_
        refine jv_le_row (jv_le_s (jv_le_s (jv_le_s (jv_le_s (jv_le_n (jv_le_nil)))))) ?_
        exact hR6 _ _ _ _ _ 
      · show jv_O _ _ _ _ 39 _ _ _ _
        refine jv_aload_n (jv_dk t_X13_spreads (k := 27) rfl) rfl rfl (Or.inr ⟨_, rfl⟩) ?_
        refine jv_iconst (v := 2) (jv_dk t_X13_spreads (k := 28) rfl) (by decide) ?_
        refine jv_iload (jv_dk t_X13_spreads (k := 29) rfl) rfl ?_
        refine jv_iconst (v := 3) (jv_dk t_X13_spreads (k := 30) rfl) (by decide) ?_
        refine jv_callV (en' := jeI) (pv := jpI) (As := [.int (2), .int (v4), .int (3)]) (S := []) (jv_dk t_X13_spreads (k := 31) rfl) (fun _ => rfl) (Or.inl lk_X13_217) me_X13_spaceOf mv_X13_spaceOf ⟨by decide, by decide⟩ rfl rfl rfl (Nat.le_of_ble_eq_true rfl) (P_X13_spaceOf X x0 2 v4 3 h5) (fun v8 h9 => ?_)
        show jv_O X M_X13_spreads _ jeI 47 [some (.ref (x0)), some (.int (x1)), some (.int (x2)), some (.int (x3)), some (.int (v4))] [.int (v8)] h9 _
        refine jv_iconst (v := 1) (jv_dk t_X13_spreads (k := 32) rfl) (by decide) ?_
        refine jv_icmp_ne (tgt := 57) (jv_dk t_X13_spreads (k := 33) rfl) rfl (fun c10 => ?_) (fun c10 => ?_)
        · refine jv_iinc (v := 1) (L' := [some (.ref (x0)), some (.int (x1)), some (.int (x2)), some (.int (x3 + 1)), some (.int (v4))]) (jv_dk t_X13_spreads (k := 40) rfl) rfl (by decide) rfl ?_
          refine jv_goto (tgt := 6) (jv_dk t_X13_spreads (k := 41) rfl) rfl ?_
          refine jv_le_row (jv_le_s (jv_le_s (jv_le_s (jv_le_s (jv_le_n (jv_le_nil)))))) ?_
          exact hR6 _ _ _ _ _ 
        · show jv_O _ _ _ _ 51 _ _ _ _
          refine jv_iload_n (jv_dk t_X13_spreads (k := 34) rfl) rfl rfl ?_
          refine jv_iconst (v := 1) (jv_dk t_X13_spreads (k := 35) rfl) (by decide) ?_
          refine jv_iload_n (jv_dk t_X13_spreads (k := 36) rfl) rfl rfl ?_
          refine jv_ishl (jv_dk t_X13_spreads (k := 37) rfl) ?_
          refine jv_ior (jv_dk t_X13_spreads (k := 38) rfl) ?_
          refine jv_istore_n (L' := [some (.ref (x0)), some (.int (x1)), some (.int (x2 ||| (1 <<< (x3 &&& 31)))), some (.int (x3)), some (.int (v4))]) (jv_dk t_X13_spreads (k := 39) rfl) rfl (Nat.le_of_ble_eq_true rfl) rfl ?_
          refine jv_iinc (v := 1) (L' := [some (.ref (x0)), some (.int (x1)), some (.int (x2 ||| (1 <<< (x3 &&& 31)))), some (.int (x3 + 1)), some (.int (v4))]) (jv_dk t_X13_spreads (k := 40) rfl) rfl (by decide) rfl ?_
          refine jv_goto (tgt := 6) (jv_dk t_X13_spreads (k := 41) rfl) rfl ?_
          refine jv_le_row (jv_le_s (jv_le_s (jv_le_s (jv_le_s (jv_le_n (jv_le_nil)))))) ?_
          exact hR6 _ _ _ _ _ 
def f_X13_spreads (a0 : Nat) (a1 : Int32) (h : jh) : Option (Int32 × jh) :=
  jlp4 (f_X13_spreads_h6 (fun y12 h11 =>
  some (y12, h11))) jfu a0 a1 (1 <<< (a1 &&& 31)) a1 h
theorem P_X13_spreads (X : jx) (a0 : Nat) (a1 : Int32) (h : jh) : jv_P X M_X13_spreads jeI [.ref (a0), .int (a1)] h (f_X13_spreads a0 a1 h) := by
  refine jv_P.of (by decide) rfl (by simp [Value.category]) (Nat.le_of_ble_eq_true rfl) ?_
  show jv_O X M_X13_spreads (h.1, h.2.1) jeI 0 [some (.ref (a0)), some (.int (a1)), none, none, none] [] h (f_X13_spreads a0 a1 h)
  unfold f_X13_spreads
  refine jv_iconst (v := 1) (jv_dk t_X13_spreads (k := 0) rfl) (by decide) ?_
  refine jv_iload_n (jv_dk t_X13_spreads (k := 1) rfl) rfl rfl ?_
  refine jv_ishl (jv_dk t_X13_spreads (k := 2) rfl) ?_
  refine jv_istore_n (L' := [some (.ref (a0)), some (.int (a1)), some (.int (1 <<< (a1 &&& 31))), none, none]) (jv_dk t_X13_spreads (k := 3) rfl) rfl (Nat.le_of_ble_eq_true rfl) rfl ?_
  refine jv_iload_n (jv_dk t_X13_spreads (k := 4) rfl) rfl rfl ?_
  refine jv_istore_n (L' := [some (.ref (a0)), some (.int (a1)), some (.int (1 <<< (a1 &&& 31))), some (.int (a1)), none]) (jv_dk t_X13_spreads (k := 5) rfl) rfl (Nat.le_of_ble_eq_true rfl) rfl ?_
  refine o_f_X13_spreads_h6 (fun y12 h11 => ?_) _ _ _ _ _ 
  show jv_O X M_X13_spreads _ jeI 63 [none, none, some (.int (y12)), none, none] [] h11 _
  refine jv_iload_n (jv_dk t_X13_spreads (k := 42) rfl) rfl rfl ?_
  exact jv_iret (ty := .int) (jv_dk t_X13_spreads (k := 43) rfl) rfl rfl rfl
def t0_X13_mountNow : List (Nat × Instr × Nat) := [(0, .aload_n 0, 1), (1, .iload_n 1, 1), (2, .iconst 4, 1), (3, .invokevirtual 205, 3), (6, .istore 4, 2), (8, .iload_n 2, 1), (9, .iconst 0, 1), (10, .bipush 7, 2), (12, .invokestatic 169, 3), (15, .ifCond .eq 43, 3), (18, .iload_n 3, 1), (19, .iconst 0, 1), (20, .bipush 99, 2), (22, .invokestatic 169, 3), (25, .ifCond .eq 33, 3), (28, .aload_n 0, 1), (29, .iload_n 1, 1), (30, .aload_n 0, 1), (31, .iconst 2, 1), (32, .iload 4, 2), (34, .iconst 2, 1), (35, .invokevirtual 217, 3), (38, .invokevirtual 267, 3), (41, .ifCond .eq 17, 3), (44, .aload_n 0, 1), (45, .iconst 2, 1), (46, .iload 4, 2), (48, .iconst 4, 1), (49, .iload_n 2, 1), (50, .iadd, 1), (51, .invokevirtual 217, 3), (54, .iload_n 3, 1), (55, .if_icmp .ne 5, 3), (58, .iconst (-1), 1), (59, .ireturn, 1), (60, .aload_n 0, 1), (61, .iconst 2, 1), (62, .iload 4, 2), (64, .iconst 4, 1), (65, .iload_n 2, 1), (66, .iadd, 1), (67, .invokevirtual 217, 3), (70, .istore 5, 2), (72, .aload_n 0, 1), (73, .iload 4, 2), (75, .invokevirtual 274, 3), (78, .istore 6, 2), (80, .iconst 0, 1), (81, .istore 7, 2), (83, .iload 7, 2), (85, .aload_n 0, 1), (86, .iconst 2, 1), (87, .invokevirtual 208, 3), (90, .if_icmp .ge 36, 3), (93, .iload 6, 2), (95, .iload 7, 2), (97, .ishr, 1), (98, .iconst 1, 1), (99, .iand, 1), (100, .iconst 1, 1), (101, .if_icmp .ne 19, 3), (104, .aload_n 0, 1), (105, .getfield 37, 3), (108, .iconst 2, 1), (109, .iload 7, 2), (111, .invokestatic 99, 3), (114, .iconst 4, 1), (115, .iadd, 1), (116, .iload_n 2, 1), (117, .iadd, 1), (118, .iload_n 3, 1), (119, .iastore, 1), (120, .iinc 7 1, 3), (123, .goto (-40), 3), (126, .iload 5, 2), (128, .ireturn, 1)]
theorem t_X13_mountNow : jv_dec cX13_mountNow t0_X13_mountNow = true := by decide +kernel
def M_X13_mountNow : jm := (yX13_mountNow, cX13_mountNow, 8, (some .int), 4, 91, [])
theorem lk_X13_274 : Cond.methodLink RX13 274 M_X13_spreads.1 ∈ lw_tbl := (jv_at 1652 (by decide +kernel))
set_option maxRecDepth 20000 in
theorem me_X13_spreads : jv_me M_X13_spreads 1 := ⟨(jv_in7 (List.mem_of_getElem? (i := 55) rfl)), (jv_at 172 (by decide +kernel)), ⟨by decide, by decide⟩, by decide +kernel⟩
theorem mv_X13_spreads : jv_mv M_X13_spreads := ⟨(jv_at 1654 (by decide +kernel)), (jv_at 130 (by decide +kernel))⟩
def f_X13_mountNow_h83 (K83 : Int32 → jh → Option (Int32 × jh)) (R83 : Nat → Int32 → Int32 → Int32 → Int32 → Int32 → jh → Option (Int32 × jh)) (x0 : Nat) (x2 : Int32) (x3 : Int32) (x5 : Int32) (x6 : Int32) (x7 : Int32) (h : jh) : Option (Int32 × jh) :=
  cV h x0 11 (f_X13_many x0 2 h) fun v21 h22 =>
  (if v21 ≤ x7 then
  K83 x5 h22
  else
  (if ¬ ((x6 >>> (x7 &&& 31)) &&& 1) = 1 then
  R83 x0 x2 x3 x5 x6 (x7 + 1) h22
  else
  gR h22 x0 11 2 fun v25 =>
  bd (f_X13_spaceAt 2 x7 h22) fun v26 h27 =>
  sI h27 v25 ((v26 + 4) + x2) x3 fun h28 =>
  R83 x0 x2 x3 x5 x6 (x7 + 1) h28))
theorem o_f_X13_mountNow_h83 {X : jx} {b0 : Nat × Nat} {K83 : Int32 → jh → Option (Int32 × jh)} (hK83 : ∀ (x5 : Int32) (h : jh), jv_O X M_X13_mountNow b0 jeI 126 [none, none, none, none, none, some (.int (x5)), none, none] [] h (K83 x5 h)) : ∀ (x0 : Nat) (x2 : Int32) (x3 : Int32) (x5 : Int32) (x6 : Int32) (x7 : Int32) (h : jh), jv_O X M_X13_mountNow b0 jeI 83 [some (.ref (x0)), none, some (.int (x2)), some (.int (x3)), none, some (.int (x5)), some (.int (x6)), some (.int (x7))] [] h (jlp6 (f_X13_mountNow_h83 K83) jfu x0 x2 x3 x5 x6 x7 h) := by
  refine jlp6_ok (P := fun x0 x2 x3 x5 x6 x7 h o => jv_O X M_X13_mountNow b0 jeI 83 [some (.ref (x0)), none, some (.int (x2)), some (.int (x3)), none, some (.int (x5)), some (.int (x6)), some (.int (x7))] [] h o) (fun R83 hR83 => ?_) (fun _ _ _ _ _ _ _  => jv_none rfl) jfu
  intro x0 x2 x3 x5 x6 x7 h
  unfold f_X13_mountNow_h83
  refine jv_iload (jv_dk t_X13_mountNow (k := 49) rfl) rfl ?_
  refine jv_aload_n (jv_dk t_X13_mountNow (k := 50) rfl) rfl rfl (Or.inr ⟨_, rfl⟩) ?_
  refine jv_iconst (v := 2) (jv_dk t_X13_mountNow (k := 51) rfl) (by decide) ?_
  refine jv_callV (en' := jeI) (pv := jpI) (As := [.int (2)]) (S := [.int (x7)]) (jv_dk t_X13_mountNow (k := 52) rfl) (fun _ => rfl) (Or.inl lk_X13_208) me_X13_many mv_X13_many ⟨by decide, by decide⟩ rfl rfl rfl (Nat.le_of_ble_eq_true rfl) (P_X13_many X x0 2 h) (fun v21 h22 => ?_)
  show jv_O X M_X13_mountNow _ jeI 90 [some (.ref (x0)), none, some (.int (x2)), some (.int (x3)), none, some (.int (x5)), some (.int (x6)), some (.int (x7))] [.int (v21), .int (x7)] h22 _
  refine jv_icmp_ge (tgt := 126) (jv_dk t_X13_mountNow (k := 53) rfl) rfl (fun c23 => ?_) (fun c23 => ?_)
  · refine jv_le_row (jv_le_n (jv_le_n (jv_le_n (jv_le_n (jv_le_n (jv_le_s (jv_le_n (jv_le_n (jv_le_nil))))))))) ?_
    exact hK83 _ _ 
  · show jv_O _ _ _ _ 93 _ _ _ _
    refine jv_iload (jv_dk t_X13_mountNow (k := 54) rfl) rfl ?_
    refine jv_iload (jv_dk t_X13_mountNow (k := 55) rfl) rfl ?_
    refine jv_ishr (jv_dk t_X13_mountNow (k := 56) rfl) ?_
    refine jv_iconst (v := 1) (jv_dk t_X13_mountNow (k := 57) rfl) (by decide) ?_
    refine jv_iand (jv_dk t_X13_mountNow (k := 58) rfl) ?_
    refine jv_iconst (v := 1) (jv_dk t_X13_mountNow (k := 59) rfl) (by decide) ?_
    refine jv_icmp_ne (tgt := 120) (jv_dk t_X13_mountNow (k := 60) rfl) rfl (fun c24 => ?_) (fun c24 => ?_)
    · refine jv_iinc (v := 1) (L' := [some (.ref (x0)), none, some (.int (x2)), some (.int (x3)), none, some (.int (x5)), some (.int (x6)), some (.int (x7 + 1))]) (jv_dk t_X13_mountNow (k := 72) rfl) rfl (by decide) rfl ?_
      refine jv_goto (tgt := 83) (jv_dk t_X13_mountNow (k := 73) rfl) rfl ?_
      exact hR83 _ _ _ _ _ _ _ 
    · show jv_O _ _ _ _ 104 _ _ _ _
      refine jv_aload_n (jv_dk t_X13_mountNow (k := 61) rfl) rfl rfl (Or.inr ⟨_, rfl⟩) ?_
      refine jv_gR (jv_dk t_X13_mountNow (k := 62) rfl) fl_X13_37 (fun v25 => ?_)
      refine jv_iconst (v := 2) (jv_dk t_X13_mountNow (k := 63) rfl) (by decide) ?_
      refine jv_iload (jv_dk t_X13_mountNow (k := 64) rfl) rfl ?_
      refine jv_callS (en' := jeI) (pv := jpI) (As := [.int (2), .int (x7)]) (S := [.ref (v25)]) (jv_dk t_X13_mountNow (k := 65) rfl) (fun _ => rfl) (Or.inl lk_X13_99) me_X13_spaceAt ms_X13_spaceAt ⟨by decide, by decide⟩ rfl rfl (Nat.le_of_ble_eq_true rfl) (P_X13_spaceAt X 2 x7 h22) (fun v26 h27 => ?_)
      show jv_O X M_X13_mountNow _ jeI 114 [some (.ref (x0)), none, some (.int (x2)), some (.int (x3)), none, some (.int (x5)), some (.int (x6)), some (.int (x7))] [.int (v26), .ref (v25)] h27 _
      refine jv_iconst (v := 4) (jv_dk t_X13_mountNow (k := 66) rfl) (by decide) ?_
      refine jv_iadd (jv_dk t_X13_mountNow (k := 67) rfl) ?_
      refine jv_iload_n (jv_dk t_X13_mountNow (k := 68) rfl) rfl rfl ?_
      refine jv_iadd (jv_dk t_X13_mountNow (k := 69) rfl) ?_
      refine jv_iload_n (jv_dk t_X13_mountNow (k := 70) rfl) rfl rfl ?_
      refine jv_iastore (jv_dk t_X13_mountNow (k := 71) rfl) (fun h28 => ?_)
      refine jv_iinc (v := 1) (L' := [some (.ref (x0)), none, some (.int (x2)), some (.int (x3)), none, some (.int (x5)), some (.int (x6)), some (.int (x7 + 1))]) (jv_dk t_X13_mountNow (k := 72) rfl) rfl (by decide) rfl ?_
      refine jv_goto (tgt := 83) (jv_dk t_X13_mountNow (k := 73) rfl) rfl ?_
      exact hR83 _ _ _ _ _ _ _ 
def f_X13_mountNow (a0 : Nat) (a1 : Int32) (a2 : Int32) (a3 : Int32) (h : jh) : Option (Int32 × jh) :=
  cV h a0 11 (f_X13_of a0 a1 4 h) fun v1 h2 =>
  bd (f_X13_isIn a2 0 7 h2) fun v3 h4 =>
  (if v3 = 0 then
  some ((-1), h4)
  else
  bd (f_X13_isIn a3 0 99 h4) fun v6 h7 =>
  (if v6 = 0 then
  some ((-1), h7)
  else
  cV h7 a0 11 (f_X13_spaceOf a0 2 v1 2 h7) fun v9 h10 =>
  cV h10 a0 11 (f_X13_isOver a0 a1 v9 h10) fun v11 h12 =>
  (if v11 = 0 then
  some ((-1), h12)
  else
  cV h12 a0 11 (f_X13_spaceOf a0 2 v1 (4 + a2) h12) fun v14 h15 =>
  (if ¬ v14 = a3 then
  cV h15 a0 11 (f_X13_spaceOf a0 2 v1 (4 + a2) h15) fun v17 h18 =>
  cV h18 a0 11 (f_X13_spreads a0 v1 h18) fun v19 h20 =>
  jlp6 (f_X13_mountNow_h83 (fun y30 h29 =>
  some (y30, h29))) jfu a0 a2 a3 v17 v19 0 h20
  else
  some ((-1), h15)))))
theorem P_X13_mountNow (X : jx) (a0 : Nat) (a1 : Int32) (a2 : Int32) (a3 : Int32) (h : jh) : jv_P X M_X13_mountNow jeI [.ref (a0), .int (a1), .int (a2), .int (a3)] h (f_X13_mountNow a0 a1 a2 a3 h) := by
  refine jv_P.of (by decide) rfl (by simp [Value.category]) (Nat.le_of_ble_eq_true rfl) ?_
  show jv_O X M_X13_mountNow (h.1, h.2.1) jeI 0 [some (.ref (a0)), some (.int (a1)), some (.int (a2)), some (.int (a3)), none, none, none, none] [] h (f_X13_mountNow a0 a1 a2 a3 h)
  unfold f_X13_mountNow
  refine jv_aload_n (jv_dk t_X13_mountNow (k := 0) rfl) rfl rfl (Or.inr ⟨_, rfl⟩) ?_
  refine jv_iload_n (jv_dk t_X13_mountNow (k := 1) rfl) rfl rfl ?_
  refine jv_iconst (v := 4) (jv_dk t_X13_mountNow (k := 2) rfl) (by decide) ?_
  refine jv_callV (en' := jeI) (pv := jpI) (As := [.int (a1), .int (4)]) (S := []) (jv_dk t_X13_mountNow (k := 3) rfl) (fun _ => rfl) (Or.inl lk_X13_205) me_X13_of mv_X13_of ⟨by decide, by decide⟩ rfl rfl rfl (Nat.le_of_ble_eq_true rfl) (P_X13_of X a0 a1 4 h) (fun v1 h2 => ?_)
  show jv_O X M_X13_mountNow _ jeI 6 [some (.ref (a0)), some (.int (a1)), some (.int (a2)), some (.int (a3)), none, none, none, none] [.int (v1)] h2 _
  refine jv_istore (L' := [some (.ref (a0)), some (.int (a1)), some (.int (a2)), some (.int (a3)), some (.int (v1)), none, none, none]) (jv_dk t_X13_mountNow (k := 4) rfl) (Nat.le_of_ble_eq_true rfl) rfl ?_
  refine jv_iload_n (jv_dk t_X13_mountNow (k := 5) rfl) rfl rfl ?_
  refine jv_iconst (v := 0) (jv_dk t_X13_mountNow (k := 6) rfl) (by decide) ?_
  refine jv_bipush (v := 7) (jv_dk t_X13_mountNow (k := 7) rfl) (by decide) ?_
  refine jv_callS (en' := jeI) (pv := jpI) (As := [.int (a2), .int (0), .int (7)]) (S := []) (jv_dk t_X13_mountNow (k := 8) rfl) (fun _ => rfl) (Or.inl lk_X13_169) me_X13_isIn ms_X13_isIn ⟨by decide, by decide⟩ rfl rfl (Nat.le_of_ble_eq_true rfl) (P_X13_isIn X a2 0 7 h2) (fun v3 h4 => ?_)
  show jv_O X M_X13_mountNow _ jeI 15 [some (.ref (a0)), some (.int (a1)), some (.int (a2)), some (.int (a3)), some (.int (v1)), none, none, none] [.int (v3)] h4 _
  refine jv_if_eq (tgt := 58) (jv_dk t_X13_mountNow (k := 9) rfl) rfl (fun c5 => ?_) (fun c5 => ?_)
  · refine jv_iconst (v := (-1)) (jv_dk t_X13_mountNow (k := 33) rfl) (by decide) ?_
    exact jv_iret (ty := .int) (jv_dk t_X13_mountNow (k := 34) rfl) rfl rfl rfl
  · show jv_O _ _ _ _ 18 _ _ _ _
    refine jv_iload_n (jv_dk t_X13_mountNow (k := 10) rfl) rfl rfl ?_
    refine jv_iconst (v := 0) (jv_dk t_X13_mountNow (k := 11) rfl) (by decide) ?_
    refine jv_bipush (v := 99) (jv_dk t_X13_mountNow (k := 12) rfl) (by decide) ?_
    refine jv_callS (en' := jeI) (pv := jpI) (As := [.int (a3), .int (0), .int (99)]) (S := []) (jv_dk t_X13_mountNow (k := 13) rfl) (fun _ => rfl) (Or.inl lk_X13_169) me_X13_isIn ms_X13_isIn ⟨by decide, by decide⟩ rfl rfl (Nat.le_of_ble_eq_true rfl) (P_X13_isIn X a3 0 99 h4) (fun v6 h7 => ?_)
    show jv_O X M_X13_mountNow _ jeI 25 [some (.ref (a0)), some (.int (a1)), some (.int (a2)), some (.int (a3)), some (.int (v1)), none, none, none] [.int (v6)] h7 _
    refine jv_if_eq (tgt := 58) (jv_dk t_X13_mountNow (k := 14) rfl) rfl (fun c8 => ?_) (fun c8 => ?_)
    · refine jv_iconst (v := (-1)) (jv_dk t_X13_mountNow (k := 33) rfl) (by decide) ?_
      exact jv_iret (ty := .int) (jv_dk t_X13_mountNow (k := 34) rfl) rfl rfl rfl
    · show jv_O _ _ _ _ 28 _ _ _ _
      refine jv_aload_n (jv_dk t_X13_mountNow (k := 15) rfl) rfl rfl (Or.inr ⟨_, rfl⟩) ?_
      refine jv_iload_n (jv_dk t_X13_mountNow (k := 16) rfl) rfl rfl ?_
      refine jv_aload_n (jv_dk t_X13_mountNow (k := 17) rfl) rfl rfl (Or.inr ⟨_, rfl⟩) ?_
      refine jv_iconst (v := 2) (jv_dk t_X13_mountNow (k := 18) rfl) (by decide) ?_
      refine jv_iload (jv_dk t_X13_mountNow (k := 19) rfl) rfl ?_
      refine jv_iconst (v := 2) (jv_dk t_X13_mountNow (k := 20) rfl) (by decide) ?_
      refine jv_callV (en' := jeI) (pv := jpI) (As := [.int (2), .int (v1), .int (2)]) (S := [.int (a1), .ref (a0)]) (jv_dk t_X13_mountNow (k := 21) rfl) (fun _ => rfl) (Or.inl lk_X13_217) me_X13_spaceOf mv_X13_spaceOf ⟨by decide, by decide⟩ rfl rfl rfl (Nat.le_of_ble_eq_true rfl) (P_X13_spaceOf X a0 2 v1 2 h7) (fun v9 h10 => ?_)
      show jv_O X M_X13_mountNow _ jeI 38 [some (.ref (a0)), some (.int (a1)), some (.int (a2)), some (.int (a3)), some (.int (v1)), none, none, none] [.int (v9), .int (a1), .ref (a0)] h10 _
      refine jv_callV (en' := jeI) (pv := jpI) (As := [.int (a1), .int (v9)]) (S := []) (jv_dk t_X13_mountNow (k := 22) rfl) (fun _ => rfl) (Or.inl lk_X13_267) me_X13_isOver mv_X13_isOver ⟨by decide, by decide⟩ rfl rfl rfl (Nat.le_of_ble_eq_true rfl) (P_X13_isOver X a0 a1 v9 h10) (fun v11 h12 => ?_)
      show jv_O X M_X13_mountNow _ jeI 41 [some (.ref (a0)), some (.int (a1)), some (.int (a2)), some (.int (a3)), some (.int (v1)), none, none, none] [.int (v11)] h12 _
      refine jv_if_eq (tgt := 58) (jv_dk t_X13_mountNow (k := 23) rfl) rfl (fun c13 => ?_) (fun c13 => ?_)
      · refine jv_iconst (v := (-1)) (jv_dk t_X13_mountNow (k := 33) rfl) (by decide) ?_
        exact jv_iret (ty := .int) (jv_dk t_X13_mountNow (k := 34) rfl) rfl rfl rfl
      · show jv_O _ _ _ _ 44 _ _ _ _
        refine jv_aload_n (jv_dk t_X13_mountNow (k := 24) rfl) rfl rfl (Or.inr ⟨_, rfl⟩) ?_
        refine jv_iconst (v := 2) (jv_dk t_X13_mountNow (k := 25) rfl) (by decide) ?_
        refine jv_iload (jv_dk t_X13_mountNow (k := 26) rfl) rfl ?_
        refine jv_iconst (v := 4) (jv_dk t_X13_mountNow (k := 27) rfl) (by decide) ?_
        refine jv_iload_n (jv_dk t_X13_mountNow (k := 28) rfl) rfl rfl ?_
        refine jv_iadd (jv_dk t_X13_mountNow (k := 29) rfl) ?_
        refine jv_callV (en' := jeI) (pv := jpI) (As := [.int (2), .int (v1), .int (4 + a2)]) (S := []) (jv_dk t_X13_mountNow (k := 30) rfl) (fun _ => rfl) (Or.inl lk_X13_217) me_X13_spaceOf mv_X13_spaceOf ⟨by decide, by decide⟩ rfl rfl rfl (Nat.le_of_ble_eq_true rfl) (P_X13_spaceOf X a0 2 v1 (4 + a2) h12) (fun v14 h15 => ?_)
        show jv_O X M_X13_mountNow _ jeI 54 [some (.ref (a0)), some (.int (a1)), some (.int (a2)), some (.int (a3)), some (.int (v1)), none, none, none] [.int (v14)] h15 _
        refine jv_iload_n (jv_dk t_X13_mountNow (k := 31) rfl) rfl rfl ?_
        refine jv_icmp_ne (tgt := 60) (jv_dk t_X13_mountNow (k := 32) rfl) rfl (fun c16 => ?_) (fun c16 => ?_)
        · refine jv_aload_n (jv_dk t_X13_mountNow (k := 35) rfl) rfl rfl (Or.inr ⟨_, rfl⟩) ?_
          refine jv_iconst (v := 2) (jv_dk t_X13_mountNow (k := 36) rfl) (by decide) ?_
          refine jv_iload (jv_dk t_X13_mountNow (k := 37) rfl) rfl ?_
          refine jv_iconst (v := 4) (jv_dk t_X13_mountNow (k := 38) rfl) (by decide) ?_
          refine jv_iload_n (jv_dk t_X13_mountNow (k := 39) rfl) rfl rfl ?_
          refine jv_iadd (jv_dk t_X13_mountNow (k := 40) rfl) ?_
          refine jv_callV (en' := jeI) (pv := jpI) (As := [.int (2), .int (v1), .int (4 + a2)]) (S := []) (jv_dk t_X13_mountNow (k := 41) rfl) (fun _ => rfl) (Or.inl lk_X13_217) me_X13_spaceOf mv_X13_spaceOf ⟨by decide, by decide⟩ rfl rfl rfl (Nat.le_of_ble_eq_true rfl) (P_X13_spaceOf X a0 2 v1 (4 + a2) h15) (fun v17 h18 => ?_)
          show jv_O X M_X13_mountNow _ jeI 70 [some (.ref (a0)), some (.int (a1)), some (.int (a2)), some (.int (a3)), some (.int (v1)), none, none, none] [.int (v17)] h18 _
          refine jv_istore (L' := [some (.ref (a0)), some (.int (a1)), some (.int (a2)), some (.int (a3)), some (.int (v1)), some (.int (v17)), none, none]) (jv_dk t_X13_mountNow (k := 42) rfl) (Nat.le_of_ble_eq_true rfl) rfl ?_
          refine jv_aload_n (jv_dk t_X13_mountNow (k := 43) rfl) rfl rfl (Or.inr ⟨_, rfl⟩) ?_
          refine jv_iload (jv_dk t_X13_mountNow (k := 44) rfl) rfl ?_
          refine jv_callV (en' := jeI) (pv := jpI) (As := [.int (v1)]) (S := []) (jv_dk t_X13_mountNow (k := 45) rfl) (fun _ => rfl) (Or.inl lk_X13_274) me_X13_spreads mv_X13_spreads ⟨by decide, by decide⟩ rfl rfl rfl (Nat.le_of_ble_eq_true rfl) (P_X13_spreads X a0 v1 h18) (fun v19 h20 => ?_)
          show jv_O X M_X13_mountNow _ jeI 78 [some (.ref (a0)), some (.int (a1)), some (.int (a2)), some (.int (a3)), some (.int (v1)), some (.int (v17)), none, none] [.int (v19)] h20 _
          refine jv_istore (L' := [some (.ref (a0)), some (.int (a1)), some (.int (a2)), some (.int (a3)), some (.int (v1)), some (.int (v17)), some (.int (v19)), none]) (jv_dk t_X13_mountNow (k := 46) rfl) (Nat.le_of_ble_eq_true rfl) rfl ?_
          refine jv_iconst (v := 0) (jv_dk t_X13_mountNow (k := 47) rfl) (by decide) ?_
          refine jv_istore (L' := [some (.ref (a0)), some (.int (a1)), some (.int (a2)), some (.int (a3)), some (.int (v1)), some (.int (v17)), some (.int (v19)), some (.int (0))]) (jv_dk t_X13_mountNow (k := 48) rfl) (Nat.le_of_ble_eq_true rfl) rfl ?_
          refine jv_le_row (jv_le_s (jv_le_n (jv_le_s (jv_le_s (jv_le_n (jv_le_s (jv_le_s (jv_le_s (jv_le_nil))))))))) ?_
          refine o_f_X13_mountNow_h83 (fun y30 h29 => ?_) _ _ _ _ _ _ _ 
          show jv_O X M_X13_mountNow _ jeI 126 [none, none, none, none, none, some (.int (y30)), none, none] [] h29 _
          refine jv_iload (jv_dk t_X13_mountNow (k := 74) rfl) rfl ?_
          exact jv_iret (ty := .int) (jv_dk t_X13_mountNow (k := 75) rfl) rfl rfl rfl
        · show jv_O _ _ _ _ 58 _ _ _ _
          refine jv_iconst (v := (-1)) (jv_dk t_X13_mountNow (k := 33) rfl) (by decide) ?_
          exact jv_iret (ty := .int) (jv_dk t_X13_mountNow (k := 34) rfl) rfl rfl rfl
def t0_X13_sees : List (Nat × Instr × Nat) := [(0, .aload_n 0, 1), (1, .iload_n 2, 1), (2, .aload_n 0, 1), (3, .iload_n 1, 1), (4, .iconst 2, 1), (5, .invokevirtual 205, 3), (8, .invokevirtual 214, 3), (11, .ifCond .le 7, 3), (14, .iconst 1, 1), (15, .goto 4, 3), (18, .iconst 0, 1), (19, .ireturn, 1)]
theorem t_X13_sees : jv_dec cX13_sees t0_X13_sees = true := by decide +kernel
def M_X13_sees : jm := (yX13_sees, cX13_sees, 3, (some .boolean), 2, 43, [])
def f_X13_sees (a0 : Nat) (a1 : Int32) (a2 : Int32) (h : jh) : Option (Int32 × jh) :=
  cV h a0 11 (f_X13_of a0 a1 2 h) fun v1 h2 =>
  cV h2 a0 11 (f_X13_numberOf a0 a2 v1 h2) fun v3 h4 =>
  (if v3 ≤ 0 then
  some (0, h4)
  else
  some (1, h4))
theorem P_X13_sees (X : jx) (a0 : Nat) (a1 : Int32) (a2 : Int32) (h : jh) : jv_P X M_X13_sees jeI [.ref (a0), .int (a1), .int (a2)] h (f_X13_sees a0 a1 a2 h) := by
  refine jv_P.of (by decide) rfl (by simp [Value.category]) (Nat.le_of_ble_eq_true rfl) ?_
  show jv_O X M_X13_sees (h.1, h.2.1) jeI 0 [some (.ref (a0)), some (.int (a1)), some (.int (a2))] [] h (f_X13_sees a0 a1 a2 h)
  unfold f_X13_sees
  refine jv_aload_n (jv_dk t_X13_sees (k := 0) rfl) rfl rfl (Or.inr ⟨_, rfl⟩) ?_
  refine jv_iload_n (jv_dk t_X13_sees (k := 1) rfl) rfl rfl ?_
  refine jv_aload_n (jv_dk t_X13_sees (k := 2) rfl) rfl rfl (Or.inr ⟨_, rfl⟩) ?_
  refine jv_iload_n (jv_dk t_X13_sees (k := 3) rfl) rfl rfl ?_
  refine jv_iconst (v := 2) (jv_dk t_X13_sees (k := 4) rfl) (by decide) ?_
  refine jv_callV (en' := jeI) (pv := jpI) (As := [.int (a1), .int (2)]) (S := [.int (a2), .ref (a0)]) (jv_dk t_X13_sees (k := 5) rfl) (fun _ => rfl) (Or.inl lk_X13_205) me_X13_of mv_X13_of ⟨by decide, by decide⟩ rfl rfl rfl (Nat.le_of_ble_eq_true rfl) (P_X13_of X a0 a1 2 h) (fun v1 h2 => ?_)
  show jv_O X M_X13_sees _ jeI 8 [some (.ref (a0)), some (.int (a1)), some (.int (a2))] [.int (v1), .int (a2), .ref (a0)] h2 _
  refine jv_callV (en' := jeI) (pv := jpI) (As := [.int (a2), .int (v1)]) (S := []) (jv_dk t_X13_sees (k := 6) rfl) (fun _ => rfl) (Or.inl lk_X13_214) me_X13_numberOf mv_X13_numberOf ⟨by decide, by decide⟩ rfl rfl rfl (Nat.le_of_ble_eq_true rfl) (P_X13_numberOf X a0 a2 v1 h2) (fun v3 h4 => ?_)
  show jv_O X M_X13_sees _ jeI 11 [some (.ref (a0)), some (.int (a1)), some (.int (a2))] [.int (v3)] h4 _
  refine jv_if_le (tgt := 18) (jv_dk t_X13_sees (k := 7) rfl) rfl (fun c5 => ?_) (fun c5 => ?_)
  · refine jv_iconst (v := 0) (jv_dk t_X13_sees (k := 10) rfl) (by decide) ?_
    exact jv_iret (ty := .boolean) (jv_dk t_X13_sees (k := 11) rfl) rfl rfl rfl
  · show jv_O _ _ _ _ 14 _ _ _ _
    refine jv_iconst (v := 1) (jv_dk t_X13_sees (k := 8) rfl) (by decide) ?_
    refine jv_goto (tgt := 19) (jv_dk t_X13_sees (k := 9) rfl) rfl ?_
    exact jv_iret (ty := .boolean) (jv_dk t_X13_sees (k := 11) rfl) rfl rfl rfl
def t0_X13_isWithin : List (Nat × Instr × Nat) := [(0, .iload_n 1, 1), (1, .istore_n 3, 1), (2, .iload_n 3, 1), (3, .iconst (-1), 1), (4, .if_icmp .eq 19, 3), (7, .iload_n 3, 1), (8, .iload_n 2, 1), (9, .if_icmp .eq 14, 3), (12, .aload_n 0, 1), (13, .iconst 0, 1), (14, .iload_n 3, 1), (15, .iconst 0, 1), (16, .invokevirtual 217, 3), (19, .istore_n 3, 1), (20, .goto (-18), 3), (23, .iload_n 3, 1), (24, .iload_n 2, 1), (25, .if_icmp .ne 7, 3), (28, .iconst 1, 1), (29, .goto 4, 3), (32, .iconst 0, 1), (33, .ireturn, 1)]
theorem t_X13_isWithin : jv_dec cX13_isWithin t0_X13_isWithin = true := by decide +kernel
def M_X13_isWithin : jm := (yX13_isWithin, cX13_isWithin, 4, (some .boolean), 2, 44, [])
def f_X13_isWithin_h2 (K2 : Int32 → Int32 → jh → Option (Int32 × jh)) (R2 : Nat → Int32 → Int32 → jh → Option (Int32 × jh)) (x0 : Nat) (x2 : Int32) (x3 : Int32) (h : jh) : Option (Int32 × jh) :=
  (if x3 = (-1) then
  K2 x2 x3 h
  else
  (if x3 = x2 then
  K2 x2 x3 h
  else
  cV h x0 11 (f_X13_spaceOf x0 0 x3 0 h) fun v3 h4 =>
  R2 x0 x2 v3 h4))
theorem o_f_X13_isWithin_h2 {X : jx} {b0 : Nat × Nat} {K2 : Int32 → Int32 → jh → Option (Int32 × jh)} (hK2 : ∀ (x2 : Int32) (x3 : Int32) (h : jh), jv_O X M_X13_isWithin b0 jeI 23 [none, none, some (.int (x2)), some (.int (x3))] [] h (K2 x2 x3 h)) : ∀ (x0 : Nat) (x2 : Int32) (x3 : Int32) (h : jh), jv_O X M_X13_isWithin b0 jeI 2 [some (.ref (x0)), none, some (.int (x2)), some (.int (x3))] [] h (jlp3 (f_X13_isWithin_h2 K2) jfu x0 x2 x3 h) := by
  refine jlp3_ok (P := fun x0 x2 x3 h o => jv_O X M_X13_isWithin b0 jeI 2 [some (.ref (x0)), none, some (.int (x2)), some (.int (x3))] [] h o) (fun R2 hR2 => ?_) (fun _ _ _ _  => jv_none rfl) jfu
  intro x0 x2 x3 h
  unfold f_X13_isWithin_h2
  refine jv_iload_n (jv_dk t_X13_isWithin (k := 2) rfl) rfl rfl ?_
  refine jv_iconst (v := (-1)) (jv_dk t_X13_isWithin (k := 3) rfl) (by decide) ?_
  refine jv_icmp_eq (tgt := 23) (jv_dk t_X13_isWithin (k := 4) rfl) rfl (fun c1 => ?_) (fun c1 => ?_)
  · refine jv_le_row (jv_le_n (jv_le_n (jv_le_s (jv_le_s (jv_le_nil))))) ?_
    exact hK2 _ _ _ 
  · show jv_O _ _ _ _ 7 _ _ _ _
    refine jv_iload_n (jv_dk t_X13_isWithin (k := 5) rfl) rfl rfl ?_
    refine jv_iload_n (jv_dk t_X13_isWithin (k := 6) rfl) rfl rfl ?_
    refine jv_icmp_eq (tgt := 23) (jv_dk t_X13_isWithin (k := 7) rfl) rfl (fun c2 => ?_) (fun c2 => ?_)
    · refine jv_le_row (jv_le_n (jv_le_n (jv_le_s (jv_le_s (jv_le_nil))))) ?_
      exact hK2 _ _ _ 
    · show jv_O _ _ _ _ 12 _ _ _ _
      refine jv_aload_n (jv_dk t_X13_isWithin (k := 8) rfl) rfl rfl (Or.inr ⟨_, rfl⟩) ?_
      refine jv_iconst (v := 0) (jv_dk t_X13_isWithin (k := 9) rfl) (by decide) ?_
      refine jv_iload_n (jv_dk t_X13_isWithin (k := 10) rfl) rfl rfl ?_
      refine jv_iconst (v := 0) (jv_dk t_X13_isWithin (k := 11) rfl) (by decide) ?_
      refine jv_callV (en' := jeI) (pv := jpI) (As := [.int (0), .int (x3), .int (0)]) (S := []) (jv_dk t_X13_isWithin (k := 12) rfl) (fun _ => rfl) (Or.inl lk_X13_217) me_X13_spaceOf mv_X13_spaceOf ⟨by decide, by decide⟩ rfl rfl rfl (Nat.le_of_ble_eq_true rfl) (P_X13_spaceOf X x0 0 x3 0 h) (fun v3 h4 => ?_)
      show jv_O X M_X13_isWithin _ jeI 19 [some (.ref (x0)), none, some (.int (x2)), some (.int (x3))] [.int (v3)] h4 _
      refine jv_istore_n (L' := [some (.ref (x0)), none, some (.int (x2)), some (.int (v3))]) (jv_dk t_X13_isWithin (k := 13) rfl) rfl (Nat.le_of_ble_eq_true rfl) rfl ?_
      refine jv_goto (tgt := 2) (jv_dk t_X13_isWithin (k := 14) rfl) rfl ?_
      exact hR2 _ _ _ _ 
def f_X13_isWithin_b23 (x2 : Int32) (x3 : Int32) (h : jh) : Option (Int32 × jh) :=
  (if ¬ x3 = x2 then
  some (0, h)
  else
  some (1, h))
theorem o_f_X13_isWithin_b23 {X : jx} {b0 : Nat × Nat} (x2 : Int32) (x3 : Int32) (h : jh) : jv_O X M_X13_isWithin b0 jeI 23 [none, none, some (.int (x2)), some (.int (x3))] [] h (f_X13_isWithin_b23 x2 x3 h) := by
  unfold f_X13_isWithin_b23
  refine jv_iload_n (jv_dk t_X13_isWithin (k := 15) rfl) rfl rfl ?_
  refine jv_iload_n (jv_dk t_X13_isWithin (k := 16) rfl) rfl rfl ?_
  refine jv_icmp_ne (tgt := 32) (jv_dk t_X13_isWithin (k := 17) rfl) rfl (fun c8 => ?_) (fun c8 => ?_)
  · refine jv_iconst (v := 0) (jv_dk t_X13_isWithin (k := 20) rfl) (by decide) ?_
    exact jv_iret (ty := .boolean) (jv_dk t_X13_isWithin (k := 21) rfl) rfl rfl rfl
  · show jv_O _ _ _ _ 28 _ _ _ _
    refine jv_iconst (v := 1) (jv_dk t_X13_isWithin (k := 18) rfl) (by decide) ?_
    refine jv_goto (tgt := 33) (jv_dk t_X13_isWithin (k := 19) rfl) rfl ?_
    exact jv_iret (ty := .boolean) (jv_dk t_X13_isWithin (k := 21) rfl) rfl rfl rfl
def f_X13_isWithin (a0 : Nat) (a1 : Int32) (a2 : Int32) (h : jh) : Option (Int32 × jh) :=
  jlp3 (f_X13_isWithin_h2 (fun y6 y7 h5 =>
  f_X13_isWithin_b23 y6 y7 h5)) jfu a0 a2 a1 h
theorem P_X13_isWithin (X : jx) (a0 : Nat) (a1 : Int32) (a2 : Int32) (h : jh) : jv_P X M_X13_isWithin jeI [.ref (a0), .int (a1), .int (a2)] h (f_X13_isWithin a0 a1 a2 h) := by
  refine jv_P.of (by decide) rfl (by simp [Value.category]) (Nat.le_of_ble_eq_true rfl) ?_
  show jv_O X M_X13_isWithin (h.1, h.2.1) jeI 0 [some (.ref (a0)), some (.int (a1)), some (.int (a2)), none] [] h (f_X13_isWithin a0 a1 a2 h)
  unfold f_X13_isWithin
  refine jv_iload_n (jv_dk t_X13_isWithin (k := 0) rfl) rfl rfl ?_
  refine jv_istore_n (L' := [some (.ref (a0)), some (.int (a1)), some (.int (a2)), some (.int (a1))]) (jv_dk t_X13_isWithin (k := 1) rfl) rfl (Nat.le_of_ble_eq_true rfl) rfl ?_
  refine jv_le_row (jv_le_s (jv_le_n (jv_le_s (jv_le_s (jv_le_nil))))) ?_
  refine o_f_X13_isWithin_h2 (fun y6 y7 h5 => ?_) _ _ _ _ 
  show jv_O X M_X13_isWithin _ jeI 23 [none, none, some (.int (y6)), some (.int (y7))] [] h5 _
  exact o_f_X13_isWithin_b23 _ _ _ 
def t0_X13_canEnter : List (Nat × Instr × Nat) := [(0, .iload_n 1, 1), (1, .iload_n 2, 1), (2, .if_icmp .eq 12, 3), (5, .aload_n 0, 1), (6, .iload_n 1, 1), (7, .iload_n 2, 1), (8, .invokevirtual 277, 3), (11, .ifCond .ne 5, 3), (14, .iconst 0, 1), (15, .ireturn, 1), (16, .iload_n 3, 1), (17, .iconst 1, 1), (18, .if_icmp .ne 38, 3), (21, .aload_n 0, 1), (22, .iload_n 1, 1), (23, .iconst 3, 1), (24, .invokevirtual 205, 3), (27, .aload_n 0, 1), (28, .iload_n 2, 1), (29, .iconst 3, 1), (30, .invokevirtual 205, 3), (33, .if_icmp .eq 21, 3), (36, .aload_n 0, 1), (37, .iload_n 1, 1), (38, .aload_n 0, 1), (39, .iload_n 2, 1), (40, .iconst 3, 1), (41, .invokevirtual 205, 3), (44, .invokevirtual 267, 3), (47, .ifCond .eq 7, 3), (50, .iconst 1, 1), (51, .goto 4, 3), (54, .iconst 0, 1), (55, .ireturn, 1), (56, .iload_n 3, 1), (57, .ifCond .ne 68, 3), (60, .aload_n 0, 1), (61, .iload_n 2, 1), (62, .iconst 2, 1), (63, .invokevirtual 205, 3), (66, .istore 4, 2), (68, .aload_n 0, 1), (69, .iload_n 1, 1), (70, .aload_n 0, 1), (71, .iconst 0, 1), (72, .iload 4, 2), (74, .iconst 2, 1), (75, .invokevirtual 217, 3), (78, .invokevirtual 267, 3), (81, .ifCond .eq 42, 3), (84, .aload_n 0, 1), (85, .iload 4, 2), (87, .aload_n 0, 1), (88, .iload_n 1, 1), (89, .iconst 2, 1), (90, .invokevirtual 205, 3), (93, .invokevirtual 280, 3), (96, .ifCond .eq 27, 3), (99, .aload_n 0, 1), (100, .iload 4, 2), (102, .invokevirtual 241, 3), (105, .ifCond .ne 18, 3), (108, .aload_n 0, 1), (109, .iload_n 1, 1), (110, .iconst 5, 1), (111, .invokevirtual 205, 3), (114, .iload 4, 2), (116, .if_icmp .eq 7, 3), (119, .iconst 1, 1), (120, .goto 4, 3), (123, .iconst 0, 1), (124, .ireturn, 1), (125, .aload_n 0, 1), (126, .iload_n 2, 1), (127, .iconst 4, 1), (128, .invokevirtual 205, 3), (131, .istore 4, 2), (133, .iload_n 3, 1), (134, .iconst 2, 1), (135, .if_icmp .ne 45, 3), (138, .aload_n 0, 1), (139, .iload_n 1, 1), (140, .bipush 7, 2), (142, .invokevirtual 205, 3), (145, .iconst 1, 1), (146, .if_icmp .ne 34, 3), (149, .aload_n 0, 1), (150, .iload_n 1, 1), (151, .iconst 4, 1), (152, .invokevirtual 205, 3), (155, .iload 4, 2), (157, .if_icmp .eq 23, 3), (160, .aload_n 0, 1), (161, .iload_n 1, 1), (162, .aload_n 0, 1), (163, .iconst 2, 1), (164, .iload 4, 2), (166, .iconst 2, 1), (167, .invokevirtual 217, 3), (170, .invokevirtual 267, 3), (173, .ifCond .eq 7, 3), (176, .iconst 1, 1), (177, .goto 4, 3), (180, .iconst 0, 1), (181, .ireturn, 1)]
theorem t_X13_canEnter : jv_dec cX13_canEnter t0_X13_canEnter = true := by decide +kernel
def M_X13_canEnter : jm := (yX13_canEnter, cX13_canEnter, 5, (some .boolean), 4, 91, [])
theorem lk_X13_277 : Cond.methodLink RX13 277 M_X13_sees.1 ∈ lw_tbl := (jv_at 1664 (by decide +kernel))
set_option maxRecDepth 20000 in
theorem me_X13_sees : jv_me M_X13_sees 2 := ⟨(jv_in7 (List.mem_of_getElem? (i := 67) rfl)), (jv_at 172 (by decide +kernel)), ⟨by decide, by decide⟩, by decide +kernel⟩
theorem lk_X13_280 : Cond.methodLink RX13 280 M_X13_isWithin.1 ∈ lw_tbl := (jv_at 1668 (by decide +kernel))
set_option maxRecDepth 20000 in
theorem me_X13_isWithin : jv_me M_X13_isWithin 2 := ⟨(jv_in7 (List.mem_of_getElem? (i := 71) rfl)), (jv_at 172 (by decide +kernel)), ⟨by decide, by decide⟩, by decide +kernel⟩
theorem mv_X13_isWithin : jv_mv M_X13_isWithin := ⟨(jv_at 1670 (by decide +kernel)), (jv_at 134 (by decide +kernel))⟩
theorem mv_X13_sees : jv_mv M_X13_sees := ⟨(jv_at 1666 (by decide +kernel)), (jv_at 133 (by decide +kernel))⟩
def f_X13_canEnter (a0 : Nat) (a1 : Int32) (a2 : Int32) (a3 : Int32) (h : jh) : Option (Int32 × jh) :=
  (if a1 = a2 then
  some (0, h)
  else
  cV h a0 11 (f_X13_sees a0 a1 a2 h) fun v2 h3 =>
  (if ¬ v2 = 0 then
  (if ¬ a3 = 1 then
  (if ¬ a3 = 0 then
  cV h3 a0 11 (f_X13_of a0 a2 4 h3) fun v7 h8 =>
  (if ¬ a3 = 2 then
  some (0, h8)
  else
  cV h8 a0 11 (f_X13_of a0 a1 7 h8) fun v10 h11 =>
  (if ¬ v10 = 1 then
  some (0, h11)
  else
  cV h11 a0 11 (f_X13_of a0 a1 4 h11) fun v13 h14 =>
  (if v13 = v7 then
  some (0, h14)
  else
  cV h14 a0 11 (f_X13_spaceOf a0 2 v7 2 h14) fun v16 h17 =>
  cV h17 a0 11 (f_X13_isOver a0 a1 v16 h17) fun v18 h19 =>
  (if v18 = 0 then
  some (0, h19)
  else
  some (1, h19)))))
  else
  cV h3 a0 11 (f_X13_of a0 a2 2 h3) fun v21 h22 =>
  cV h22 a0 11 (f_X13_spaceOf a0 0 v21 2 h22) fun v23 h24 =>
  cV h24 a0 11 (f_X13_isOver a0 a1 v23 h24) fun v25 h26 =>
  (if v25 = 0 then
  some (0, h26)
  else
  cV h26 a0 11 (f_X13_of a0 a1 2 h26) fun v28 h29 =>
  cV h29 a0 11 (f_X13_isWithin a0 v21 v28 h29) fun v30 h31 =>
  (if v30 = 0 then
  some (0, h31)
  else
  cV h31 a0 11 (f_X13_isDead a0 v21 h31) fun v33 h34 =>
  (if ¬ v33 = 0 then
  some (0, h34)
  else
  cV h34 a0 11 (f_X13_of a0 a1 5 h34) fun v36 h37 =>
  (if v36 = v21 then
  some (0, h37)
  else
  some (1, h37))))))
  else
  cV h3 a0 11 (f_X13_of a0 a1 3 h3) fun v39 h40 =>
  cV h40 a0 11 (f_X13_of a0 a2 3 h40) fun v41 h42 =>
  (if v39 = v41 then
  some (0, h42)
  else
  cV h42 a0 11 (f_X13_of a0 a2 3 h42) fun v44 h45 =>
  cV h45 a0 11 (f_X13_isOver a0 a1 v44 h45) fun v46 h47 =>
  (if v46 = 0 then
  some (0, h47)
  else
  some (1, h47))))
  else
  some (0, h3)))
theorem P_X13_canEnter (X : jx) (a0 : Nat) (a1 : Int32) (a2 : Int32) (a3 : Int32) (h : jh) : jv_P X M_X13_canEnter jeI [.ref (a0), .int (a1), .int (a2), .int (a3)] h (f_X13_canEnter a0 a1 a2 a3 h) := by
  refine jv_P.of (by decide) rfl (by simp [Value.category]) (Nat.le_of_ble_eq_true rfl) ?_
  show jv_O X M_X13_canEnter (h.1, h.2.1) jeI 0 [some (.ref (a0)), some (.int (a1)), some (.int (a2)), some (.int (a3)), none] [] h (f_X13_canEnter a0 a1 a2 a3 h)
  unfold f_X13_canEnter
  refine jv_iload_n (jv_dk t_X13_canEnter (k := 0) rfl) rfl rfl ?_
  refine jv_iload_n (jv_dk t_X13_canEnter (k := 1) rfl) rfl rfl ?_
  refine jv_icmp_eq (tgt := 14) (jv_dk t_X13_canEnter (k := 2) rfl) rfl (fun c1 => ?_) (fun c1 => ?_)
  · refine jv_iconst (v := 0) (jv_dk t_X13_canEnter (k := 8) rfl) (by decide) ?_
    exact jv_iret (ty := .boolean) (jv_dk t_X13_canEnter (k := 9) rfl) rfl rfl rfl
  · show jv_O _ _ _ _ 5 _ _ _ _
    refine jv_aload_n (jv_dk t_X13_canEnter (k := 3) rfl) rfl rfl (Or.inr ⟨_, rfl⟩) ?_
    refine jv_iload_n (jv_dk t_X13_canEnter (k := 4) rfl) rfl rfl ?_
    refine jv_iload_n (jv_dk t_X13_canEnter (k := 5) rfl) rfl rfl ?_
    refine jv_callV (en' := jeI) (pv := jpI) (As := [.int (a1), .int (a2)]) (S := []) (jv_dk t_X13_canEnter (k := 6) rfl) (fun _ => rfl) (Or.inl lk_X13_277) me_X13_sees mv_X13_sees ⟨by decide, by decide⟩ rfl rfl rfl (Nat.le_of_ble_eq_true rfl) (P_X13_sees X a0 a1 a2 h) (fun v2 h3 => ?_)
    show jv_O X M_X13_canEnter _ jeI 11 [some (.ref (a0)), some (.int (a1)), some (.int (a2)), some (.int (a3)), none] [.int (v2)] h3 _
    refine jv_if_ne (tgt := 16) (jv_dk t_X13_canEnter (k := 7) rfl) rfl (fun c4 => ?_) (fun c4 => ?_)
    · refine jv_iload_n (jv_dk t_X13_canEnter (k := 10) rfl) rfl rfl ?_
      refine jv_iconst (v := 1) (jv_dk t_X13_canEnter (k := 11) rfl) (by decide) ?_
      refine jv_icmp_ne (tgt := 56) (jv_dk t_X13_canEnter (k := 12) rfl) rfl (fun c5 => ?_) (fun c5 => ?_)
      · refine jv_iload_n (jv_dk t_X13_canEnter (k := 34) rfl) rfl rfl ?_
        refine jv_if_ne (tgt := 125) (jv_dk t_X13_canEnter (k := 35) rfl) rfl (fun c6 => ?_) (fun c6 => ?_)
        · refine jv_aload_n (jv_dk t_X13_canEnter (k := 72) rfl) rfl rfl (Or.inr ⟨_, rfl⟩) ?_
          refine jv_iload_n (jv_dk t_X13_canEnter (k := 73) rfl) rfl rfl ?_
          refine jv_iconst (v := 4) (jv_dk t_X13_canEnter (k := 74) rfl) (by decide) ?_
          refine jv_callV (en' := jeI) (pv := jpI) (As := [.int (a2), .int (4)]) (S := []) (jv_dk t_X13_canEnter (k := 75) rfl) (fun _ => rfl) (Or.inl lk_X13_205) me_X13_of mv_X13_of ⟨by decide, by decide⟩ rfl rfl rfl (Nat.le_of_ble_eq_true rfl) (P_X13_of X a0 a2 4 h3) (fun v7 h8 => ?_)
          show jv_O X M_X13_canEnter _ jeI 131 [some (.ref (a0)), some (.int (a1)), some (.int (a2)), some (.int (a3)), none] [.int (v7)] h8 _
          refine jv_istore (L' := [some (.ref (a0)), some (.int (a1)), some (.int (a2)), some (.int (a3)), some (.int (v7))]) (jv_dk t_X13_canEnter (k := 76) rfl) (Nat.le_of_ble_eq_true rfl) rfl ?_
          refine jv_iload_n (jv_dk t_X13_canEnter (k := 77) rfl) rfl rfl ?_
          refine jv_iconst (v := 2) (jv_dk t_X13_canEnter (k := 78) rfl) (by decide) ?_
          refine jv_icmp_ne (tgt := 180) (jv_dk t_X13_canEnter (k := 79) rfl) rfl (fun c9 => ?_) (fun c9 => ?_)
          · refine jv_iconst (v := 0) (jv_dk t_X13_canEnter (k := 103) rfl) (by decide) ?_
            exact jv_iret (ty := .boolean) (jv_dk t_X13_canEnter (k := 104) rfl) rfl rfl rfl
          · show jv_O _ _ _ _ 138 _ _ _ _
            refine jv_aload_n (jv_dk t_X13_canEnter (k := 80) rfl) rfl rfl (Or.inr ⟨_, rfl⟩) ?_
            refine jv_iload_n (jv_dk t_X13_canEnter (k := 81) rfl) rfl rfl ?_
            refine jv_bipush (v := 7) (jv_dk t_X13_canEnter (k := 82) rfl) (by decide) ?_
            refine jv_callV (en' := jeI) (pv := jpI) (As := [.int (a1), .int (7)]) (S := []) (jv_dk t_X13_canEnter (k := 83) rfl) (fun _ => rfl) (Or.inl lk_X13_205) me_X13_of mv_X13_of ⟨by decide, by decide⟩ rfl rfl rfl (Nat.le_of_ble_eq_true rfl) (P_X13_of X a0 a1 7 h8) (fun v10 h11 => ?_)
            show jv_O X M_X13_canEnter _ jeI 145 [some (.ref (a0)), some (.int (a1)), some (.int (a2)), some (.int (a3)), some (.int (v7))] [.int (v10)] h11 _
            refine jv_iconst (v := 1) (jv_dk t_X13_canEnter (k := 84) rfl) (by decide) ?_
            refine jv_icmp_ne (tgt := 180) (jv_dk t_X13_canEnter (k := 85) rfl) rfl (fun c12 => ?_) (fun c12 => ?_)
            · refine jv_iconst (v := 0) (jv_dk t_X13_canEnter (k := 103) rfl) (by decide) ?_
              exact jv_iret (ty := .boolean) (jv_dk t_X13_canEnter (k := 104) rfl) rfl rfl rfl
            · show jv_O _ _ _ _ 149 _ _ _ _
              refine jv_aload_n (jv_dk t_X13_canEnter (k := 86) rfl) rfl rfl (Or.inr ⟨_, rfl⟩) ?_
              refine jv_iload_n (jv_dk t_X13_canEnter (k := 87) rfl) rfl rfl ?_
              refine jv_iconst (v := 4) (jv_dk t_X13_canEnter (k := 88) rfl) (by decide) ?_
              refine jv_callV (en' := jeI) (pv := jpI) (As := [.int (a1), .int (4)]) (S := []) (jv_dk t_X13_canEnter (k := 89) rfl) (fun _ => rfl) (Or.inl lk_X13_205) me_X13_of mv_X13_of ⟨by decide, by decide⟩ rfl rfl rfl (Nat.le_of_ble_eq_true rfl) (P_X13_of X a0 a1 4 h11) (fun v13 h14 => ?_)
              show jv_O X M_X13_canEnter _ jeI 155 [some (.ref (a0)), some (.int (a1)), some (.int (a2)), some (.int (a3)), some (.int (v7))] [.int (v13)] h14 _
              refine jv_iload (jv_dk t_X13_canEnter (k := 90) rfl) rfl ?_
              refine jv_icmp_eq (tgt := 180) (jv_dk t_X13_canEnter (k := 91) rfl) rfl (fun c15 => ?_) (fun c15 => ?_)
              · refine jv_iconst (v := 0) (jv_dk t_X13_canEnter (k := 103) rfl) (by decide) ?_
                exact jv_iret (ty := .boolean) (jv_dk t_X13_canEnter (k := 104) rfl) rfl rfl rfl
              · show jv_O _ _ _ _ 160 _ _ _ _
                refine jv_aload_n (jv_dk t_X13_canEnter (k := 92) rfl) rfl rfl (Or.inr ⟨_, rfl⟩) ?_
                refine jv_iload_n (jv_dk t_X13_canEnter (k := 93) rfl) rfl rfl ?_
                refine jv_aload_n (jv_dk t_X13_canEnter (k := 94) rfl) rfl rfl (Or.inr ⟨_, rfl⟩) ?_
                refine jv_iconst (v := 2) (jv_dk t_X13_canEnter (k := 95) rfl) (by decide) ?_
                refine jv_iload (jv_dk t_X13_canEnter (k := 96) rfl) rfl ?_
                refine jv_iconst (v := 2) (jv_dk t_X13_canEnter (k := 97) rfl) (by decide) ?_
                refine jv_callV (en' := jeI) (pv := jpI) (As := [.int (2), .int (v7), .int (2)]) (S := [.int (a1), .ref (a0)]) (jv_dk t_X13_canEnter (k := 98) rfl) (fun _ => rfl) (Or.inl lk_X13_217) me_X13_spaceOf mv_X13_spaceOf ⟨by decide, by decide⟩ rfl rfl rfl (Nat.le_of_ble_eq_true rfl) (P_X13_spaceOf X a0 2 v7 2 h14) (fun v16 h17 => ?_)
                show jv_O X M_X13_canEnter _ jeI 170 [some (.ref (a0)), some (.int (a1)), some (.int (a2)), some (.int (a3)), some (.int (v7))] [.int (v16), .int (a1), .ref (a0)] h17 _
                refine jv_callV (en' := jeI) (pv := jpI) (As := [.int (a1), .int (v16)]) (S := []) (jv_dk t_X13_canEnter (k := 99) rfl) (fun _ => rfl) (Or.inl lk_X13_267) me_X13_isOver mv_X13_isOver ⟨by decide, by decide⟩ rfl rfl rfl (Nat.le_of_ble_eq_true rfl) (P_X13_isOver X a0 a1 v16 h17) (fun v18 h19 => ?_)
                show jv_O X M_X13_canEnter _ jeI 173 [some (.ref (a0)), some (.int (a1)), some (.int (a2)), some (.int (a3)), some (.int (v7))] [.int (v18)] h19 _
                refine jv_if_eq (tgt := 180) (jv_dk t_X13_canEnter (k := 100) rfl) rfl (fun c20 => ?_) (fun c20 => ?_)
                · refine jv_iconst (v := 0) (jv_dk t_X13_canEnter (k := 103) rfl) (by decide) ?_
                  exact jv_iret (ty := .boolean) (jv_dk t_X13_canEnter (k := 104) rfl) rfl rfl rfl
                · show jv_O _ _ _ _ 176 _ _ _ _
                  refine jv_iconst (v := 1) (jv_dk t_X13_canEnter (k := 101) rfl) (by decide) ?_
                  refine jv_goto (tgt := 181) (jv_dk t_X13_canEnter (k := 102) rfl) rfl ?_
                  exact jv_iret (ty := .boolean) (jv_dk t_X13_canEnter (k := 104) rfl) rfl rfl rfl
        · show jv_O _ _ _ _ 60 _ _ _ _
          refine jv_aload_n (jv_dk t_X13_canEnter (k := 36) rfl) rfl rfl (Or.inr ⟨_, rfl⟩) ?_
          refine jv_iload_n (jv_dk t_X13_canEnter (k := 37) rfl) rfl rfl ?_
          refine jv_iconst (v := 2) (jv_dk t_X13_canEnter (k := 38) rfl) (by decide) ?_
          refine jv_callV (en' := jeI) (pv := jpI) (As := [.int (a2), .int (2)]) (S := []) (jv_dk t_X13_canEnter (k := 39) rfl) (fun _ => rfl) (Or.inl lk_X13_205) me_X13_of mv_X13_of ⟨by decide, by decide⟩ rfl rfl rfl (Nat.le_of_ble_eq_true rfl) (P_X13_of X a0 a2 2 h3) (fun v21 h22 => ?_)
          show jv_O X M_X13_canEnter _ jeI 66 [some (.ref (a0)), some (.int (a1)), some (.int (a2)), some (.int (a3)), none] [.int (v21)] h22 _
          refine jv_istore (L' := [some (.ref (a0)), some (.int (a1)), some (.int (a2)), some (.int (a3)), some (.int (v21))]) (jv_dk t_X13_canEnter (k := 40) rfl) (Nat.le_of_ble_eq_true rfl) rfl ?_
          refine jv_aload_n (jv_dk t_X13_canEnter (k := 41) rfl) rfl rfl (Or.inr ⟨_, rfl⟩) ?_
          refine jv_iload_n (jv_dk t_X13_canEnter (k := 42) rfl) rfl rfl ?_
          refine jv_aload_n (jv_dk t_X13_canEnter (k := 43) rfl) rfl rfl (Or.inr ⟨_, rfl⟩) ?_
          refine jv_iconst (v := 0) (jv_dk t_X13_canEnter (k := 44) rfl) (by decide) ?_
          refine jv_iload (jv_dk t_X13_canEnter (k := 45) rfl) rfl ?_
          refine jv_iconst (v := 2) (jv_dk t_X13_canEnter (k := 46) rfl) (by decide) ?_
          refine jv_callV (en' := jeI) (pv := jpI) (As := [.int (0), .int (v21), .int (2)]) (S := [.int (a1), .ref (a0)]) (jv_dk t_X13_canEnter (k := 47) rfl) (fun _ => rfl) (Or.inl lk_X13_217) me_X13_spaceOf mv_X13_spaceOf ⟨by decide, by decide⟩ rfl rfl rfl (Nat.le_of_ble_eq_true rfl) (P_X13_spaceOf X a0 0 v21 2 h22) (fun v23 h24 => ?_)
          show jv_O X M_X13_canEnter _ jeI 78 [some (.ref (a0)), some (.int (a1)), some (.int (a2)), some (.int (a3)), some (.int (v21))] [.int (v23), .int (a1), .ref (a0)] h24 _
          refine jv_callV (en' := jeI) (pv := jpI) (As := [.int (a1), .int (v23)]) (S := []) (jv_dk t_X13_canEnter (k := 48) rfl) (fun _ => rfl) (Or.inl lk_X13_267) me_X13_isOver mv_X13_isOver ⟨by decide, by decide⟩ rfl rfl rfl (Nat.le_of_ble_eq_true rfl) (P_X13_isOver X a0 a1 v23 h24) (fun v25 h26 => ?_)
          show jv_O X M_X13_canEnter _ jeI 81 [some (.ref (a0)), some (.int (a1)), some (.int (a2)), some (.int (a3)), some (.int (v21))] [.int (v25)] h26 _
          refine jv_if_eq (tgt := 123) (jv_dk t_X13_canEnter (k := 49) rfl) rfl (fun c27 => ?_) (fun c27 => ?_)
          · refine jv_iconst (v := 0) (jv_dk t_X13_canEnter (k := 70) rfl) (by decide) ?_
            exact jv_iret (ty := .boolean) (jv_dk t_X13_canEnter (k := 71) rfl) rfl rfl rfl
          · show jv_O _ _ _ _ 84 _ _ _ _
            refine jv_aload_n (jv_dk t_X13_canEnter (k := 50) rfl) rfl rfl (Or.inr ⟨_, rfl⟩) ?_
            refine jv_iload (jv_dk t_X13_canEnter (k := 51) rfl) rfl ?_
            refine jv_aload_n (jv_dk t_X13_canEnter (k := 52) rfl) rfl rfl (Or.inr ⟨_, rfl⟩) ?_
            refine jv_iload_n (jv_dk t_X13_canEnter (k := 53) rfl) rfl rfl ?_
            refine jv_iconst (v := 2) (jv_dk t_X13_canEnter (k := 54) rfl) (by decide) ?_
            refine jv_callV (en' := jeI) (pv := jpI) (As := [.int (a1), .int (2)]) (S := [.int (v21), .ref (a0)]) (jv_dk t_X13_canEnter (k := 55) rfl) (fun _ => rfl) (Or.inl lk_X13_205) me_X13_of mv_X13_of ⟨by decide, by decide⟩ rfl rfl rfl (Nat.le_of_ble_eq_true rfl) (P_X13_of X a0 a1 2 h26) (fun v28 h29 => ?_)
            show jv_O X M_X13_canEnter _ jeI 93 [some (.ref (a0)), some (.int (a1)), some (.int (a2)), some (.int (a3)), some (.int (v21))] [.int (v28), .int (v21), .ref (a0)] h29 _
            refine jv_callV (en' := jeI) (pv := jpI) (As := [.int (v21), .int (v28)]) (S := []) (jv_dk t_X13_canEnter (k := 56) rfl) (fun _ => rfl) (Or.inl lk_X13_280) me_X13_isWithin mv_X13_isWithin ⟨by decide, by decide⟩ rfl rfl rfl (Nat.le_of_ble_eq_true rfl) (P_X13_isWithin X a0 v21 v28 h29) (fun v30 h31 => ?_)
            show jv_O X M_X13_canEnter _ jeI 96 [some (.ref (a0)), some (.int (a1)), some (.int (a2)), some (.int (a3)), some (.int (v21))] [.int (v30)] h31 _
            refine jv_if_eq (tgt := 123) (jv_dk t_X13_canEnter (k := 57) rfl) rfl (fun c32 => ?_) (fun c32 => ?_)
            · refine jv_iconst (v := 0) (jv_dk t_X13_canEnter (k := 70) rfl) (by decide) ?_
              exact jv_iret (ty := .boolean) (jv_dk t_X13_canEnter (k := 71) rfl) rfl rfl rfl
            · show jv_O _ _ _ _ 99 _ _ _ _
              refine jv_aload_n (jv_dk t_X13_canEnter (k := 58) rfl) rfl rfl (Or.inr ⟨_, rfl⟩) ?_
              refine jv_iload (jv_dk t_X13_canEnter (k := 59) rfl) rfl ?_
              refine jv_callV (en' := jeI) (pv := jpI) (As := [.int (v21)]) (S := []) (jv_dk t_X13_canEnter (k := 60) rfl) (fun _ => rfl) (Or.inl lk_X13_241) me_X13_isDead mv_X13_isDead ⟨by decide, by decide⟩ rfl rfl rfl (Nat.le_of_ble_eq_true rfl) (P_X13_isDead X a0 v21 h31) (fun v33 h34 => ?_)
              show jv_O X M_X13_canEnter _ jeI 105 [some (.ref (a0)), some (.int (a1)), some (.int (a2)), some (.int (a3)), some (.int (v21))] [.int (v33)] h34 _
              refine jv_if_ne (tgt := 123) (jv_dk t_X13_canEnter (k := 61) rfl) rfl (fun c35 => ?_) (fun c35 => ?_)
              · refine jv_iconst (v := 0) (jv_dk t_X13_canEnter (k := 70) rfl) (by decide) ?_
                exact jv_iret (ty := .boolean) (jv_dk t_X13_canEnter (k := 71) rfl) rfl rfl rfl
              · show jv_O _ _ _ _ 108 _ _ _ _
                refine jv_aload_n (jv_dk t_X13_canEnter (k := 62) rfl) rfl rfl (Or.inr ⟨_, rfl⟩) ?_
                refine jv_iload_n (jv_dk t_X13_canEnter (k := 63) rfl) rfl rfl ?_
                refine jv_iconst (v := 5) (jv_dk t_X13_canEnter (k := 64) rfl) (by decide) ?_
                refine jv_callV (en' := jeI) (pv := jpI) (As := [.int (a1), .int (5)]) (S := []) (jv_dk t_X13_canEnter (k := 65) rfl) (fun _ => rfl) (Or.inl lk_X13_205) me_X13_of mv_X13_of ⟨by decide, by decide⟩ rfl rfl rfl (Nat.le_of_ble_eq_true rfl) (P_X13_of X a0 a1 5 h34) (fun v36 h37 => ?_)
                show jv_O X M_X13_canEnter _ jeI 114 [some (.ref (a0)), some (.int (a1)), some (.int (a2)), some (.int (a3)), some (.int (v21))] [.int (v36)] h37 _
                refine jv_iload (jv_dk t_X13_canEnter (k := 66) rfl) rfl ?_
                refine jv_icmp_eq (tgt := 123) (jv_dk t_X13_canEnter (k := 67) rfl) rfl (fun c38 => ?_) (fun c38 => ?_)
                · refine jv_iconst (v := 0) (jv_dk t_X13_canEnter (k := 70) rfl) (by decide) ?_
                  exact jv_iret (ty := .boolean) (jv_dk t_X13_canEnter (k := 71) rfl) rfl rfl rfl
                · show jv_O _ _ _ _ 119 _ _ _ _
                  refine jv_iconst (v := 1) (jv_dk t_X13_canEnter (k := 68) rfl) (by decide) ?_
                  refine jv_goto (tgt := 124) (jv_dk t_X13_canEnter (k := 69) rfl) rfl ?_
                  exact jv_iret (ty := .boolean) (jv_dk t_X13_canEnter (k := 71) rfl) rfl rfl rfl
      · show jv_O _ _ _ _ 21 _ _ _ _
        refine jv_aload_n (jv_dk t_X13_canEnter (k := 13) rfl) rfl rfl (Or.inr ⟨_, rfl⟩) ?_
        refine jv_iload_n (jv_dk t_X13_canEnter (k := 14) rfl) rfl rfl ?_
        refine jv_iconst (v := 3) (jv_dk t_X13_canEnter (k := 15) rfl) (by decide) ?_
        refine jv_callV (en' := jeI) (pv := jpI) (As := [.int (a1), .int (3)]) (S := []) (jv_dk t_X13_canEnter (k := 16) rfl) (fun _ => rfl) (Or.inl lk_X13_205) me_X13_of mv_X13_of ⟨by decide, by decide⟩ rfl rfl rfl (Nat.le_of_ble_eq_true rfl) (P_X13_of X a0 a1 3 h3) (fun v39 h40 => ?_)
        show jv_O X M_X13_canEnter _ jeI 27 [some (.ref (a0)), some (.int (a1)), some (.int (a2)), some (.int (a3)), none] [.int (v39)] h40 _
        refine jv_aload_n (jv_dk t_X13_canEnter (k := 17) rfl) rfl rfl (Or.inr ⟨_, rfl⟩) ?_
        refine jv_iload_n (jv_dk t_X13_canEnter (k := 18) rfl) rfl rfl ?_
        refine jv_iconst (v := 3) (jv_dk t_X13_canEnter (k := 19) rfl) (by decide) ?_
        refine jv_callV (en' := jeI) (pv := jpI) (As := [.int (a2), .int (3)]) (S := [.int (v39)]) (jv_dk t_X13_canEnter (k := 20) rfl) (fun _ => rfl) (Or.inl lk_X13_205) me_X13_of mv_X13_of ⟨by decide, by decide⟩ rfl rfl rfl (Nat.le_of_ble_eq_true rfl) (P_X13_of X a0 a2 3 h40) (fun v41 h42 => ?_)
        show jv_O X M_X13_canEnter _ jeI 33 [some (.ref (a0)), some (.int (a1)), some (.int (a2)), some (.int (a3)), none] [.int (v41), .int (v39)] h42 _
        refine jv_icmp_eq (tgt := 54) (jv_dk t_X13_canEnter (k := 21) rfl) rfl (fun c43 => ?_) (fun c43 => ?_)
        · refine jv_iconst (v := 0) (jv_dk t_X13_canEnter (k := 32) rfl) (by decide) ?_
          exact jv_iret (ty := .boolean) (jv_dk t_X13_canEnter (k := 33) rfl) rfl rfl rfl
        · show jv_O _ _ _ _ 36 _ _ _ _
          refine jv_aload_n (jv_dk t_X13_canEnter (k := 22) rfl) rfl rfl (Or.inr ⟨_, rfl⟩) ?_
          refine jv_iload_n (jv_dk t_X13_canEnter (k := 23) rfl) rfl rfl ?_
          refine jv_aload_n (jv_dk t_X13_canEnter (k := 24) rfl) rfl rfl (Or.inr ⟨_, rfl⟩) ?_
          refine jv_iload_n (jv_dk t_X13_canEnter (k := 25) rfl) rfl rfl ?_
          refine jv_iconst (v := 3) (jv_dk t_X13_canEnter (k := 26) rfl) (by decide) ?_
          refine jv_callV (en' := jeI) (pv := jpI) (As := [.int (a2), .int (3)]) (S := [.int (a1), .ref (a0)]) (jv_dk t_X13_canEnter (k := 27) rfl) (fun _ => rfl) (Or.inl lk_X13_205) me_X13_of mv_X13_of ⟨by decide, by decide⟩ rfl rfl rfl (Nat.le_of_ble_eq_true rfl) (P_X13_of X a0 a2 3 h42) (fun v44 h45 => ?_)
          show jv_O X M_X13_canEnter _ jeI 44 [some (.ref (a0)), some (.int (a1)), some (.int (a2)), some (.int (a3)), none] [.int (v44), .int (a1), .ref (a0)] h45 _
          refine jv_callV (en' := jeI) (pv := jpI) (As := [.int (a1), .int (v44)]) (S := []) (jv_dk t_X13_canEnter (k := 28) rfl) (fun _ => rfl) (Or.inl lk_X13_267) me_X13_isOver mv_X13_isOver ⟨by decide, by decide⟩ rfl rfl rfl (Nat.le_of_ble_eq_true rfl) (P_X13_isOver X a0 a1 v44 h45) (fun v46 h47 => ?_)
          show jv_O X M_X13_canEnter _ jeI 47 [some (.ref (a0)), some (.int (a1)), some (.int (a2)), some (.int (a3)), none] [.int (v46)] h47 _
          refine jv_if_eq (tgt := 54) (jv_dk t_X13_canEnter (k := 29) rfl) rfl (fun c48 => ?_) (fun c48 => ?_)
          · refine jv_iconst (v := 0) (jv_dk t_X13_canEnter (k := 32) rfl) (by decide) ?_
            exact jv_iret (ty := .boolean) (jv_dk t_X13_canEnter (k := 33) rfl) rfl rfl rfl
          · show jv_O _ _ _ _ 50 _ _ _ _
            refine jv_iconst (v := 1) (jv_dk t_X13_canEnter (k := 30) rfl) (by decide) ?_
            refine jv_goto (tgt := 55) (jv_dk t_X13_canEnter (k := 31) rfl) rfl ?_
            exact jv_iret (ty := .boolean) (jv_dk t_X13_canEnter (k := 33) rfl) rfl rfl rfl
    · show jv_O _ _ _ _ 14 _ _ _ _
      refine jv_iconst (v := 0) (jv_dk t_X13_canEnter (k := 8) rfl) (by decide) ?_
      exact jv_iret (ty := .boolean) (jv_dk t_X13_canEnter (k := 9) rfl) rfl rfl rfl
def t0_X13_enterNow : List (Nat × Instr × Nat) := [(0, .aload_n 0, 1), (1, .iload_n 1, 1), (2, .iload_n 2, 1), (3, .iload_n 3, 1), (4, .invokevirtual 283, 3), (7, .ifCond .ne 5, 3), (10, .iconst (-1), 1), (11, .ireturn, 1), (12, .aload_n 0, 1), (13, .iload_n 2, 1), (14, .iload_n 3, 1), (15, .iconst 1, 1), (16, .if_icmp .ne 7, 3), (19, .iconst 3, 1), (20, .goto 12, 3), (23, .iload_n 3, 1), (24, .ifCond .ne 7, 3), (27, .iconst 2, 1), (28, .goto 4, 3), (31, .iconst 4, 1), (32, .invokevirtual 205, 3), (35, .istore 4, 2), (37, .aload_n 0, 1), (38, .getfield 37, 3), (41, .iload_n 1, 1), (42, .iload_n 3, 1), (43, .iconst 1, 1), (44, .if_icmp .ne 7, 3), (47, .iconst 3, 1), (48, .goto 12, 3), (51, .iload_n 3, 1), (52, .ifCond .ne 7, 3), (55, .iconst 5, 1), (56, .goto 4, 3), (59, .iconst 4, 1), (60, .invokestatic 248, 3), (63, .iload 4, 2), (65, .iastore, 1), (66, .iload_n 3, 1), (67, .iconst 1, 1), (68, .if_icmp .ne 15, 3), (71, .aload_n 0, 1), (72, .getfield 37, 3), (75, .iload_n 1, 1), (76, .bipush 7, 2), (78, .invokestatic 248, 3), (81, .iconst 1, 1), (82, .iastore, 1), (83, .iload 4, 2), (85, .ireturn, 1)]
theorem t_X13_enterNow : jv_dec cX13_enterNow t0_X13_enterNow = true := by decide +kernel
def M_X13_enterNow : jm := (yX13_enterNow, cX13_enterNow, 5, (some .int), 5, 115, [])
theorem lk_X13_283 : Cond.methodLink RX13 283 M_X13_canEnter.1 ∈ lw_tbl := (jv_at 1660 (by decide +kernel))
set_option maxRecDepth 20000 in
theorem me_X13_canEnter : jv_me M_X13_canEnter 3 := ⟨(jv_in7 (List.mem_of_getElem? (i := 63) rfl)), (jv_at 172 (by decide +kernel)), ⟨by decide, by decide⟩, by decide +kernel⟩
theorem mv_X13_canEnter : jv_mv M_X13_canEnter := ⟨(jv_at 1662 (by decide +kernel)), (jv_at 132 (by decide +kernel))⟩
def f_X13_enterNow_b60 (x0 : Nat) (x1 : Int32) (x3 : Int32) (x4 : Int32) (s0 : Int32) (s1 : Int32) (s2 : Nat) (h : jh) : Option (Int32 × jh) :=
  bd (f_X13_processAt s1 s0 h) fun v11 h12 =>
  sI h12 s2 v11 x4 fun h13 =>
  (if ¬ x3 = 1 then
  some (x4, h13)
  else
  gR h13 x0 11 2 fun v15 =>
  bd (f_X13_processAt x1 7 h13) fun v16 h17 =>
  sI h17 v15 v16 1 fun h18 =>
  some (x4, h18))
theorem o_f_X13_enterNow_b60 {X : jx} {b0 : Nat × Nat} (x0 : Nat) (x1 : Int32) (x3 : Int32) (x4 : Int32) (s0 : Int32) (s1 : Int32) (s2 : Nat) (h : jh) : jv_O X M_X13_enterNow b0 jeI 60 [some (.ref (x0)), some (.int (x1)), none, some (.int (x3)), some (.int (x4))] [.int (s0), .int (s1), .ref (s2)] h (f_X13_enterNow_b60 x0 x1 x3 x4 s0 s1 s2 h) := by
  unfold f_X13_enterNow_b60
  refine jv_callS (en' := jeI) (pv := jpI) (As := [.int (s1), .int (s0)]) (S := [.ref (s2)]) (jv_dk t_X13_enterNow (k := 35) rfl) (fun _ => rfl) (Or.inl lk_X13_248) me_X13_processAt ms_X13_processAt ⟨by decide, by decide⟩ rfl rfl (Nat.le_of_ble_eq_true rfl) (P_X13_processAt X s1 s0 h) (fun v11 h12 => ?_)
  show jv_O X M_X13_enterNow _ jeI 63 [some (.ref (x0)), some (.int (x1)), none, some (.int (x3)), some (.int (x4))] [.int (v11), .ref (s2)] h12 _
  refine jv_iload (jv_dk t_X13_enterNow (k := 36) rfl) rfl ?_
  refine jv_iastore (jv_dk t_X13_enterNow (k := 37) rfl) (fun h13 => ?_)
  refine jv_iload_n (jv_dk t_X13_enterNow (k := 38) rfl) rfl rfl ?_
  refine jv_iconst (v := 1) (jv_dk t_X13_enterNow (k := 39) rfl) (by decide) ?_
  refine jv_icmp_ne (tgt := 83) (jv_dk t_X13_enterNow (k := 40) rfl) rfl (fun c14 => ?_) (fun c14 => ?_)
  · refine jv_iload (jv_dk t_X13_enterNow (k := 48) rfl) rfl ?_
    exact jv_iret (ty := .int) (jv_dk t_X13_enterNow (k := 49) rfl) rfl rfl rfl
  · show jv_O _ _ _ _ 71 _ _ _ _
    refine jv_aload_n (jv_dk t_X13_enterNow (k := 41) rfl) rfl rfl (Or.inr ⟨_, rfl⟩) ?_
    refine jv_gR (jv_dk t_X13_enterNow (k := 42) rfl) fl_X13_37 (fun v15 => ?_)
    refine jv_iload_n (jv_dk t_X13_enterNow (k := 43) rfl) rfl rfl ?_
    refine jv_bipush (v := 7) (jv_dk t_X13_enterNow (k := 44) rfl) (by decide) ?_
    refine jv_callS (en' := jeI) (pv := jpI) (As := [.int (x1), .int (7)]) (S := [.ref (v15)]) (jv_dk t_X13_enterNow (k := 45) rfl) (fun _ => rfl) (Or.inl lk_X13_248) me_X13_processAt ms_X13_processAt ⟨by decide, by decide⟩ rfl rfl (Nat.le_of_ble_eq_true rfl) (P_X13_processAt X x1 7 h13) (fun v16 h17 => ?_)
    show jv_O X M_X13_enterNow _ jeI 81 [some (.ref (x0)), some (.int (x1)), none, some (.int (x3)), some (.int (x4))] [.int (v16), .ref (v15)] h17 _
    refine jv_iconst (v := 1) (jv_dk t_X13_enterNow (k := 46) rfl) (by decide) ?_
    refine jv_iastore (jv_dk t_X13_enterNow (k := 47) rfl) (fun h18 => ?_)
    refine jv_iload (jv_dk t_X13_enterNow (k := 48) rfl) rfl ?_
    exact jv_iret (ty := .int) (jv_dk t_X13_enterNow (k := 49) rfl) rfl rfl rfl
def f_X13_enterNow_b32 (x0 : Nat) (x1 : Int32) (x3 : Int32) (s0 : Int32) (s1 : Int32) (s2 : Nat) (h : jh) : Option (Int32 × jh) :=
  cV h s2 11 (f_X13_of s2 s1 s0 h) fun v6 h7 =>
  gR h7 x0 11 2 fun v8 =>
  (if ¬ x3 = 1 then
  (if ¬ x3 = 0 then
  f_X13_enterNow_b60 x0 x1 x3 v6 4 x1 v8 h7
  else
  f_X13_enterNow_b60 x0 x1 x3 v6 5 x1 v8 h7)
  else
  f_X13_enterNow_b60 x0 x1 x3 v6 3 x1 v8 h7)
theorem o_f_X13_enterNow_b32 {X : jx} {b0 : Nat × Nat} (x0 : Nat) (x1 : Int32) (x3 : Int32) (s0 : Int32) (s1 : Int32) (s2 : Nat) (h : jh) : jv_O X M_X13_enterNow b0 jeI 32 [some (.ref (x0)), some (.int (x1)), none, some (.int (x3)), none] [.int (s0), .int (s1), .ref (s2)] h (f_X13_enterNow_b32 x0 x1 x3 s0 s1 s2 h) := by
  unfold f_X13_enterNow_b32
  refine jv_callV (en' := jeI) (pv := jpI) (As := [.int (s1), .int (s0)]) (S := []) (jv_dk t_X13_enterNow (k := 20) rfl) (fun _ => rfl) (Or.inl lk_X13_205) me_X13_of mv_X13_of ⟨by decide, by decide⟩ rfl rfl rfl (Nat.le_of_ble_eq_true rfl) (P_X13_of X s2 s1 s0 h) (fun v6 h7 => ?_)
  show jv_O X M_X13_enterNow _ jeI 35 [some (.ref (x0)), some (.int (x1)), none, some (.int (x3)), none] [.int (v6)] h7 _
  refine jv_istore (L' := [some (.ref (x0)), some (.int (x1)), none, some (.int (x3)), some (.int (v6))]) (jv_dk t_X13_enterNow (k := 21) rfl) (Nat.le_of_ble_eq_true rfl) rfl ?_
  refine jv_aload_n (jv_dk t_X13_enterNow (k := 22) rfl) rfl rfl (Or.inr ⟨_, rfl⟩) ?_
  refine jv_gR (jv_dk t_X13_enterNow (k := 23) rfl) fl_X13_37 (fun v8 => ?_)
  refine jv_iload_n (jv_dk t_X13_enterNow (k := 24) rfl) rfl rfl ?_
  refine jv_iload_n (jv_dk t_X13_enterNow (k := 25) rfl) rfl rfl ?_
  refine jv_iconst (v := 1) (jv_dk t_X13_enterNow (k := 26) rfl) (by decide) ?_
  refine jv_icmp_ne (tgt := 51) (jv_dk t_X13_enterNow (k := 27) rfl) rfl (fun c9 => ?_) (fun c9 => ?_)
  · refine jv_iload_n (jv_dk t_X13_enterNow (k := 30) rfl) rfl rfl ?_
    refine jv_if_ne (tgt := 59) (jv_dk t_X13_enterNow (k := 31) rfl) rfl (fun c10 => ?_) (fun c10 => ?_)
    · refine jv_iconst (v := 4) (jv_dk t_X13_enterNow (k := 34) rfl) (by decide) ?_
      exact o_f_X13_enterNow_b60 _ _ _ _ _ _ _ _ 
    · show jv_O _ _ _ _ 55 _ _ _ _
      refine jv_iconst (v := 5) (jv_dk t_X13_enterNow (k := 32) rfl) (by decide) ?_
      refine jv_goto (tgt := 60) (jv_dk t_X13_enterNow (k := 33) rfl) rfl ?_
      exact o_f_X13_enterNow_b60 _ _ _ _ _ _ _ _ 
  · show jv_O _ _ _ _ 47 _ _ _ _
    refine jv_iconst (v := 3) (jv_dk t_X13_enterNow (k := 28) rfl) (by decide) ?_
    refine jv_goto (tgt := 60) (jv_dk t_X13_enterNow (k := 29) rfl) rfl ?_
    exact o_f_X13_enterNow_b60 _ _ _ _ _ _ _ _ 
def f_X13_enterNow (a0 : Nat) (a1 : Int32) (a2 : Int32) (a3 : Int32) (h : jh) : Option (Int32 × jh) :=
  cV h a0 11 (f_X13_canEnter a0 a1 a2 a3 h) fun v1 h2 =>
  (if ¬ v1 = 0 then
  (if ¬ a3 = 1 then
  (if ¬ a3 = 0 then
  f_X13_enterNow_b32 a0 a1 a3 4 a2 a0 h2
  else
  f_X13_enterNow_b32 a0 a1 a3 2 a2 a0 h2)
  else
  f_X13_enterNow_b32 a0 a1 a3 3 a2 a0 h2)
  else
  some ((-1), h2))
theorem P_X13_enterNow (X : jx) (a0 : Nat) (a1 : Int32) (a2 : Int32) (a3 : Int32) (h : jh) : jv_P X M_X13_enterNow jeI [.ref (a0), .int (a1), .int (a2), .int (a3)] h (f_X13_enterNow a0 a1 a2 a3 h) := by
  refine jv_P.of (by decide) rfl (by simp [Value.category]) (Nat.le_of_ble_eq_true rfl) ?_
  show jv_O X M_X13_enterNow (h.1, h.2.1) jeI 0 [some (.ref (a0)), some (.int (a1)), some (.int (a2)), some (.int (a3)), none] [] h (f_X13_enterNow a0 a1 a2 a3 h)
  unfold f_X13_enterNow
  refine jv_aload_n (jv_dk t_X13_enterNow (k := 0) rfl) rfl rfl (Or.inr ⟨_, rfl⟩) ?_
  refine jv_iload_n (jv_dk t_X13_enterNow (k := 1) rfl) rfl rfl ?_
  refine jv_iload_n (jv_dk t_X13_enterNow (k := 2) rfl) rfl rfl ?_
  refine jv_iload_n (jv_dk t_X13_enterNow (k := 3) rfl) rfl rfl ?_
  refine jv_callV (en' := jeI) (pv := jpI) (As := [.int (a1), .int (a2), .int (a3)]) (S := []) (jv_dk t_X13_enterNow (k := 4) rfl) (fun _ => rfl) (Or.inl lk_X13_283) me_X13_canEnter mv_X13_canEnter ⟨by decide, by decide⟩ rfl rfl rfl (Nat.le_of_ble_eq_true rfl) (P_X13_canEnter X a0 a1 a2 a3 h) (fun v1 h2 => ?_)
  show jv_O X M_X13_enterNow _ jeI 7 [some (.ref (a0)), some (.int (a1)), some (.int (a2)), some (.int (a3)), none] [.int (v1)] h2 _
  refine jv_if_ne (tgt := 12) (jv_dk t_X13_enterNow (k := 5) rfl) rfl (fun c3 => ?_) (fun c3 => ?_)
  · refine jv_aload_n (jv_dk t_X13_enterNow (k := 8) rfl) rfl rfl (Or.inr ⟨_, rfl⟩) ?_
    refine jv_iload_n (jv_dk t_X13_enterNow (k := 9) rfl) rfl rfl ?_
    refine jv_iload_n (jv_dk t_X13_enterNow (k := 10) rfl) rfl rfl ?_
    refine jv_iconst (v := 1) (jv_dk t_X13_enterNow (k := 11) rfl) (by decide) ?_
    refine jv_icmp_ne (tgt := 23) (jv_dk t_X13_enterNow (k := 12) rfl) rfl (fun c4 => ?_) (fun c4 => ?_)
    · refine jv_iload_n (jv_dk t_X13_enterNow (k := 15) rfl) rfl rfl ?_
      refine jv_if_ne (tgt := 31) (jv_dk t_X13_enterNow (k := 16) rfl) rfl (fun c5 => ?_) (fun c5 => ?_)
      · refine jv_iconst (v := 4) (jv_dk t_X13_enterNow (k := 19) rfl) (by decide) ?_
        refine jv_le_row (jv_le_s (jv_le_s (jv_le_n (jv_le_s (jv_le_n (jv_le_nil)))))) ?_
        exact o_f_X13_enterNow_b32 _ _ _ _ _ _ _ 
      · show jv_O _ _ _ _ 27 _ _ _ _
        refine jv_iconst (v := 2) (jv_dk t_X13_enterNow (k := 17) rfl) (by decide) ?_
        refine jv_goto (tgt := 32) (jv_dk t_X13_enterNow (k := 18) rfl) rfl ?_
        refine jv_le_row (jv_le_s (jv_le_s (jv_le_n (jv_le_s (jv_le_n (jv_le_nil)))))) ?_
        exact o_f_X13_enterNow_b32 _ _ _ _ _ _ _ 
    · show jv_O _ _ _ _ 19 _ _ _ _
      refine jv_iconst (v := 3) (jv_dk t_X13_enterNow (k := 13) rfl) (by decide) ?_
      refine jv_goto (tgt := 32) (jv_dk t_X13_enterNow (k := 14) rfl) rfl ?_
      refine jv_le_row (jv_le_s (jv_le_s (jv_le_n (jv_le_s (jv_le_n (jv_le_nil)))))) ?_
      exact o_f_X13_enterNow_b32 _ _ _ _ _ _ _ 
  · show jv_O _ _ _ _ 10 _ _ _ _
    refine jv_iconst (v := (-1)) (jv_dk t_X13_enterNow (k := 6) rfl) (by decide) ?_
    exact jv_iret (ty := .int) (jv_dk t_X13_enterNow (k := 7) rfl) rfl rfl rfl
def t0_X13_initOf : List (Nat × Instr × Nat) := [(0, .aload_n 0, 1), (1, .iconst 0, 1), (2, .iload_n 1, 1), (3, .iconst 5, 1), (4, .invokevirtual 217, 3), (7, .iconst 1, 1), (8, .if_icmp .ne 13, 3), (11, .aload_n 0, 1), (12, .iconst 0, 1), (13, .iload_n 1, 1), (14, .iconst 4, 1), (15, .invokevirtual 217, 3), (18, .goto 4, 3), (21, .iconst (-1), 1), (22, .ireturn, 1)]
theorem t_X13_initOf : jv_dec cX13_initOf t0_X13_initOf = true := by decide +kernel
def M_X13_initOf : jm := (yX13_initOf, cX13_initOf, 2, (some .int), 2, 44, [])
def f_X13_initOf (a0 : Nat) (a1 : Int32) (h : jh) : Option (Int32 × jh) :=
  cV h a0 11 (f_X13_spaceOf a0 0 a1 5 h) fun v1 h2 =>
  (if ¬ v1 = 1 then
  some ((-1), h2)
  else
  cV h2 a0 11 (f_X13_spaceOf a0 0 a1 4 h2) fun v4 h5 =>
  some (v4, h5))
theorem P_X13_initOf (X : jx) (a0 : Nat) (a1 : Int32) (h : jh) : jv_P X M_X13_initOf jeI [.ref (a0), .int (a1)] h (f_X13_initOf a0 a1 h) := by
  refine jv_P.of (by decide) rfl (by simp [Value.category]) (Nat.le_of_ble_eq_true rfl) ?_
  show jv_O X M_X13_initOf (h.1, h.2.1) jeI 0 [some (.ref (a0)), some (.int (a1))] [] h (f_X13_initOf a0 a1 h)
  unfold f_X13_initOf
  refine jv_aload_n (jv_dk t_X13_initOf (k := 0) rfl) rfl rfl (Or.inr ⟨_, rfl⟩) ?_
  refine jv_iconst (v := 0) (jv_dk t_X13_initOf (k := 1) rfl) (by decide) ?_
  refine jv_iload_n (jv_dk t_X13_initOf (k := 2) rfl) rfl rfl ?_
  refine jv_iconst (v := 5) (jv_dk t_X13_initOf (k := 3) rfl) (by decide) ?_
  refine jv_callV (en' := jeI) (pv := jpI) (As := [.int (0), .int (a1), .int (5)]) (S := []) (jv_dk t_X13_initOf (k := 4) rfl) (fun _ => rfl) (Or.inl lk_X13_217) me_X13_spaceOf mv_X13_spaceOf ⟨by decide, by decide⟩ rfl rfl rfl (Nat.le_of_ble_eq_true rfl) (P_X13_spaceOf X a0 0 a1 5 h) (fun v1 h2 => ?_)
  show jv_O X M_X13_initOf _ jeI 7 [some (.ref (a0)), some (.int (a1))] [.int (v1)] h2 _
  refine jv_iconst (v := 1) (jv_dk t_X13_initOf (k := 5) rfl) (by decide) ?_
  refine jv_icmp_ne (tgt := 21) (jv_dk t_X13_initOf (k := 6) rfl) rfl (fun c3 => ?_) (fun c3 => ?_)
  · refine jv_iconst (v := (-1)) (jv_dk t_X13_initOf (k := 13) rfl) (by decide) ?_
    exact jv_iret (ty := .int) (jv_dk t_X13_initOf (k := 14) rfl) rfl rfl rfl
  · show jv_O _ _ _ _ 11 _ _ _ _
    refine jv_aload_n (jv_dk t_X13_initOf (k := 7) rfl) rfl rfl (Or.inr ⟨_, rfl⟩) ?_
    refine jv_iconst (v := 0) (jv_dk t_X13_initOf (k := 8) rfl) (by decide) ?_
    refine jv_iload_n (jv_dk t_X13_initOf (k := 9) rfl) rfl rfl ?_
    refine jv_iconst (v := 4) (jv_dk t_X13_initOf (k := 10) rfl) (by decide) ?_
    refine jv_callV (en' := jeI) (pv := jpI) (As := [.int (0), .int (a1), .int (4)]) (S := []) (jv_dk t_X13_initOf (k := 11) rfl) (fun _ => rfl) (Or.inl lk_X13_217) me_X13_spaceOf mv_X13_spaceOf ⟨by decide, by decide⟩ rfl rfl rfl (Nat.le_of_ble_eq_true rfl) (P_X13_spaceOf X a0 0 a1 4 h2) (fun v4 h5 => ?_)
    show jv_O X M_X13_initOf _ jeI 18 [some (.ref (a0)), some (.int (a1))] [.int (v4)] h5 _
    refine jv_goto (tgt := 22) (jv_dk t_X13_initOf (k := 12) rfl) rfl ?_
    exact jv_iret (ty := .int) (jv_dk t_X13_initOf (k := 14) rfl) rfl rfl rfl
def t0_X13_isInit : List (Nat × Instr × Nat) := [(0, .aload_n 0, 1), (1, .aload_n 0, 1), (2, .iload_n 1, 1), (3, .iconst 2, 1), (4, .invokevirtual 205, 3), (7, .invokevirtual 221, 3), (10, .iload_n 1, 1), (11, .if_icmp .ne 7, 3), (14, .iconst 1, 1), (15, .goto 4, 3), (18, .iconst 0, 1), (19, .ireturn, 1)]
theorem t_X13_isInit : jv_dec cX13_isInit t0_X13_isInit = true := by decide +kernel
def M_X13_isInit : jm := (yX13_isInit, cX13_isInit, 2, (some .boolean), 3, 65, [])
theorem lk_X13_221 : Cond.methodLink RX13 221 M_X13_initOf.1 ∈ lw_tbl := (jv_at 1684 (by decide +kernel))
set_option maxRecDepth 20000 in
theorem me_X13_initOf : jv_me M_X13_initOf 1 := ⟨(jv_in7 (List.mem_of_getElem? (i := 87) rfl)), (jv_at 172 (by decide +kernel)), ⟨by decide, by decide⟩, by decide +kernel⟩
theorem mv_X13_initOf : jv_mv M_X13_initOf := ⟨(jv_at 1686 (by decide +kernel)), (jv_at 138 (by decide +kernel))⟩
def f_X13_isInit (a0 : Nat) (a1 : Int32) (h : jh) : Option (Int32 × jh) :=
  cV h a0 11 (f_X13_of a0 a1 2 h) fun v1 h2 =>
  cV h2 a0 11 (f_X13_initOf a0 v1 h2) fun v3 h4 =>
  (if ¬ v3 = a1 then
  some (0, h4)
  else
  some (1, h4))
theorem P_X13_isInit (X : jx) (a0 : Nat) (a1 : Int32) (h : jh) : jv_P X M_X13_isInit jeI [.ref (a0), .int (a1)] h (f_X13_isInit a0 a1 h) := by
  refine jv_P.of (by decide) rfl (by simp [Value.category]) (Nat.le_of_ble_eq_true rfl) ?_
  show jv_O X M_X13_isInit (h.1, h.2.1) jeI 0 [some (.ref (a0)), some (.int (a1))] [] h (f_X13_isInit a0 a1 h)
  unfold f_X13_isInit
  refine jv_aload_n (jv_dk t_X13_isInit (k := 0) rfl) rfl rfl (Or.inr ⟨_, rfl⟩) ?_
  refine jv_aload_n (jv_dk t_X13_isInit (k := 1) rfl) rfl rfl (Or.inr ⟨_, rfl⟩) ?_
  refine jv_iload_n (jv_dk t_X13_isInit (k := 2) rfl) rfl rfl ?_
  refine jv_iconst (v := 2) (jv_dk t_X13_isInit (k := 3) rfl) (by decide) ?_
  refine jv_callV (en' := jeI) (pv := jpI) (As := [.int (a1), .int (2)]) (S := [.ref (a0)]) (jv_dk t_X13_isInit (k := 4) rfl) (fun _ => rfl) (Or.inl lk_X13_205) me_X13_of mv_X13_of ⟨by decide, by decide⟩ rfl rfl rfl (Nat.le_of_ble_eq_true rfl) (P_X13_of X a0 a1 2 h) (fun v1 h2 => ?_)
  show jv_O X M_X13_isInit _ jeI 7 [some (.ref (a0)), some (.int (a1))] [.int (v1), .ref (a0)] h2 _
  refine jv_callV (en' := jeI) (pv := jpI) (As := [.int (v1)]) (S := []) (jv_dk t_X13_isInit (k := 5) rfl) (fun _ => rfl) (Or.inl lk_X13_221) me_X13_initOf mv_X13_initOf ⟨by decide, by decide⟩ rfl rfl rfl (Nat.le_of_ble_eq_true rfl) (P_X13_initOf X a0 v1 h2) (fun v3 h4 => ?_)
  show jv_O X M_X13_isInit _ jeI 10 [some (.ref (a0)), some (.int (a1))] [.int (v3)] h4 _
  refine jv_iload_n (jv_dk t_X13_isInit (k := 6) rfl) rfl rfl ?_
  refine jv_icmp_ne (tgt := 18) (jv_dk t_X13_isInit (k := 7) rfl) rfl (fun c5 => ?_) (fun c5 => ?_)
  · refine jv_iconst (v := 0) (jv_dk t_X13_isInit (k := 10) rfl) (by decide) ?_
    exact jv_iret (ty := .boolean) (jv_dk t_X13_isInit (k := 11) rfl) rfl rfl rfl
  · show jv_O _ _ _ _ 14 _ _ _ _
    refine jv_iconst (v := 1) (jv_dk t_X13_isInit (k := 8) rfl) (by decide) ?_
    refine jv_goto (tgt := 19) (jv_dk t_X13_isInit (k := 9) rfl) rfl ?_
    exact jv_iret (ty := .boolean) (jv_dk t_X13_isInit (k := 11) rfl) rfl rfl rfl
def t0_X13_fall : List (Nat × Instr × Nat) := [(0, .iconst 1, 1), (1, .iload_n 1, 1), (2, .ishl, 1), (3, .istore_n 2, 1), (4, .iconst 0, 1), (5, .istore_n 3, 1), (6, .iload_n 3, 1), (7, .bipush 16, 2), (9, .if_icmp .ge 50, 3), (12, .aload_n 0, 1), (13, .iload_n 1, 1), (14, .invokevirtual 286, 3), (17, .ifCond .eq 42, 3), (20, .aload_n 0, 1), (21, .iload_n 3, 1), (22, .invokevirtual 289, 3), (25, .ifCond .eq 28, 3), (28, .aload_n 0, 1), (29, .aload_n 0, 1), (30, .iload_n 3, 1), (31, .iconst 2, 1), (32, .invokevirtual 205, 3), (35, .aload_n 0, 1), (36, .iload_n 1, 1), (37, .iconst 2, 1), (38, .invokevirtual 205, 3), (41, .invokevirtual 280, 3), (44, .ifCond .eq 9, 3), (47, .iload_n 2, 1), (48, .iconst 1, 1), (49, .iload_n 3, 1), (50, .ishl, 1), (51, .ior, 1), (52, .istore_n 2, 1), (53, .iinc 3 1, 3), (56, .goto (-50), 3), (59, .iload_n 2, 1), (60, .ireturn, 1)]
theorem t_X13_fall : jv_dec cX13_fall t0_X13_fall = true := by decide +kernel
def M_X13_fall : jm := (yX13_fall, cX13_fall, 4, (some .int), 4, 86, [])
theorem lk_X13_286 : Cond.methodLink RX13 286 M_X13_isInit.1 ∈ lw_tbl := (jv_at 1680 (by decide +kernel))
set_option maxRecDepth 20000 in
theorem me_X13_isInit : jv_me M_X13_isInit 1 := ⟨(jv_in7 (List.mem_of_getElem? (i := 83) rfl)), (jv_at 172 (by decide +kernel)), ⟨by decide, by decide⟩, by decide +kernel⟩
theorem lk_X13_289 : Cond.methodLink RX13 289 M_X13_isThere.1 ∈ lw_tbl := (jv_at 1550 (by decide +kernel))
set_option maxRecDepth 20000 in
theorem me_X13_isThere : jv_me M_X13_isThere 1 := ⟨(jv_in6 (List.mem_of_getElem? (i := 193) rfl)), (jv_at 172 (by decide +kernel)), ⟨by decide, by decide⟩, by decide +kernel⟩
theorem mv_X13_isThere : jv_mv M_X13_isThere := ⟨(jv_at 1552 (by decide +kernel)), (jv_at 107 (by decide +kernel))⟩
theorem mv_X13_isInit : jv_mv M_X13_isInit := ⟨(jv_at 1682 (by decide +kernel)), (jv_at 137 (by decide +kernel))⟩
def f_X13_fall_h6 (K6 : Int32 → jh → Option (Int32 × jh)) (R6 : Nat → Int32 → Int32 → Int32 → jh → Option (Int32 × jh)) (x0 : Nat) (x1 : Int32) (x2 : Int32) (x3 : Int32) (h : jh) : Option (Int32 × jh) :=
  (if 16 ≤ x3 then
  K6 x2 h
  else
  cV h x0 11 (f_X13_isInit x0 x1 h) fun v2 h3 =>
  (if v2 = 0 then
  K6 x2 h3
  else
  cV h3 x0 11 (f_X13_isThere x0 x3 h3) fun v5 h6 =>
  (if v5 = 0 then
  R6 x0 x1 x2 (x3 + 1) h6
  else
  cV h6 x0 11 (f_X13_of x0 x3 2 h6) fun v8 h9 =>
  cV h9 x0 11 (f_X13_of x0 x1 2 h9) fun v10 h11 =>
  cV h11 x0 11 (f_X13_isWithin x0 v8 v10 h11) fun v12 h13 =>
  (if v12 = 0 then
  R6 x0 x1 x2 (x3 + 1) h13
  else
  R6 x0 x1 (x2 ||| (1 <<< (x3 &&& 31))) (x3 + 1) h13))))
theorem o_f_X13_fall_h6 {X : jx} {b0 : Nat × Nat} {K6 : Int32 → jh → Option (Int32 × jh)} (hK6 : ∀ (x2 : Int32) (h : jh), jv_O X M_X13_fall b0 jeI 59 [none, none, some (.int (x2)), none] [] h (K6 x2 h)) : ∀ (x0 : Nat) (x1 : Int32) (x2 : Int32) (x3 : Int32) (h : jh), jv_O X M_X13_fall b0 jeI 6 [some (.ref (x0)), some (.int (x1)), some (.int (x2)), some (.int (x3))] [] h (jlp4 (f_X13_fall_h6 K6) jfu x0 x1 x2 x3 h) := by
  refine jlp4_ok (P := fun x0 x1 x2 x3 h o => jv_O X M_X13_fall b0 jeI 6 [some (.ref (x0)), some (.int (x1)), some (.int (x2)), some (.int (x3))] [] h o) (fun R6 hR6 => ?_) (fun _ _ _ _ _  => jv_none rfl) jfu
  intro x0 x1 x2 x3 h
  unfold f_X13_fall_h6
  refine jv_iload_n (jv_dk t_X13_fall (k := 6) rfl) rfl rfl ?_
  refine jv_bipush (v := 16) (jv_dk t_X13_fall (k := 7) rfl) (by decide) ?_
  refine jv_icmp_ge (tgt := 59) (jv_dk t_X13_fall (k := 8) rfl) rfl (fun c1 => ?_) (fun c1 => ?_)
  · refine jv_le_row (jv_le_n (jv_le_n (jv_le_s (jv_le_n (jv_le_nil))))) ?_
    exact hK6 _ _ 
  · show jv_O _ _ _ _ 12 _ _ _ _
    refine jv_aload_n (jv_dk t_X13_fall (k := 9) rfl) rfl rfl (Or.inr ⟨_, rfl⟩) ?_
    refine jv_iload_n (jv_dk t_X13_fall (k := 10) rfl) rfl rfl ?_
    refine jv_callV (en' := jeI) (pv := jpI) (As := [.int (x1)]) (S := []) (jv_dk t_X13_fall (k := 11) rfl) (fun _ => rfl) (Or.inl lk_X13_286) me_X13_isInit mv_X13_isInit ⟨by decide, by decide⟩ rfl rfl rfl (Nat.le_of_ble_eq_true rfl) (P_X13_isInit X x0 x1 h) (fun v2 h3 => ?_)
    show jv_O X M_X13_fall _ jeI 17 [some (.ref (x0)), some (.int (x1)), some (.int (x2)), some (.int (x3))] [.int (v2)] h3 _
    refine jv_if_eq (tgt := 59) (jv_dk t_X13_fall (k := 12) rfl) rfl (fun c4 => ?_) (fun c4 => ?_)
    · refine jv_le_row (jv_le_n (jv_le_n (jv_le_s (jv_le_n (jv_le_nil))))) ?_
      exact hK6 _ _ 
    · show jv_O _ _ _ _ 20 _ _ _ _
      refine jv_aload_n (jv_dk t_X13_fall (k := 13) rfl) rfl rfl (Or.inr ⟨_, rfl⟩) ?_
      refine jv_iload_n (jv_dk t_X13_fall (k := 14) rfl) rfl rfl ?_
      refine jv_callV (en' := jeI) (pv := jpI) (As := [.int (x3)]) (S := []) (jv_dk t_X13_fall (k := 15) rfl) (fun _ => rfl) (Or.inl lk_X13_289) me_X13_isThere mv_X13_isThere ⟨by decide, by decide⟩ rfl rfl rfl (Nat.le_of_ble_eq_true rfl) (P_X13_isThere X x0 x3 h3) (fun v5 h6 => ?_)
      show jv_O X M_X13_fall _ jeI 25 [some (.ref (x0)), some (.int (x1)), some (.int (x2)), some (.int (x3))] [.int (v5)] h6 _
      refine jv_if_eq (tgt := 53) (jv_dk t_X13_fall (k := 16) rfl) rfl (fun c7 => ?_) (fun c7 => ?_)
      · refine jv_iinc (v := 1) (L' := [some (.ref (x0)), some (.int (x1)), some (.int (x2)), some (.int (x3 + 1))]) (jv_dk t_X13_fall (k := 34) rfl) rfl (by decide) rfl ?_
        refine jv_goto (tgt := 6) (jv_dk t_X13_fall (k := 35) rfl) rfl ?_
        exact hR6 _ _ _ _ _ 
      · show jv_O _ _ _ _ 28 _ _ _ _
        refine jv_aload_n (jv_dk t_X13_fall (k := 17) rfl) rfl rfl (Or.inr ⟨_, rfl⟩) ?_
        refine jv_aload_n (jv_dk t_X13_fall (k := 18) rfl) rfl rfl (Or.inr ⟨_, rfl⟩) ?_
        refine jv_iload_n (jv_dk t_X13_fall (k := 19) rfl) rfl rfl ?_
        refine jv_iconst (v := 2) (jv_dk t_X13_fall (k := 20) rfl) (by decide) ?_
        refine jv_callV (en' := jeI) (pv := jpI) (As := [.int (x3), .int (2)]) (S := [.ref (x0)]) (jv_dk t_X13_fall (k := 21) rfl) (fun _ => rfl) (Or.inl lk_X13_205) me_X13_of mv_X13_of ⟨by decide, by decide⟩ rfl rfl rfl (Nat.le_of_ble_eq_true rfl) (P_X13_of X x0 x3 2 h6) (fun v8 h9 => ?_)
        show jv_O X M_X13_fall _ jeI 35 [some (.ref (x0)), some (.int (x1)), some (.int (x2)), some (.int (x3))] [.int (v8), .ref (x0)] h9 _
        refine jv_aload_n (jv_dk t_X13_fall (k := 22) rfl) rfl rfl (Or.inr ⟨_, rfl⟩) ?_
        refine jv_iload_n (jv_dk t_X13_fall (k := 23) rfl) rfl rfl ?_
        refine jv_iconst (v := 2) (jv_dk t_X13_fall (k := 24) rfl) (by decide) ?_
        refine jv_callV (en' := jeI) (pv := jpI) (As := [.int (x1), .int (2)]) (S := [.int (v8), .ref (x0)]) (jv_dk t_X13_fall (k := 25) rfl) (fun _ => rfl) (Or.inl lk_X13_205) me_X13_of mv_X13_of ⟨by decide, by decide⟩ rfl rfl rfl (Nat.le_of_ble_eq_true rfl) (P_X13_of X x0 x1 2 h9) (fun v10 h11 => ?_)
        show jv_O X M_X13_fall _ jeI 41 [some (.ref (x0)), some (.int (x1)), some (.int (x2)), some (.int (x3))] [.int (v10), .int (v8), .ref (x0)] h11 _
        refine jv_callV (en' := jeI) (pv := jpI) (As := [.int (v8), .int (v10)]) (S := []) (jv_dk t_X13_fall (k := 26) rfl) (fun _ => rfl) (Or.inl lk_X13_280) me_X13_isWithin mv_X13_isWithin ⟨by decide, by decide⟩ rfl rfl rfl (Nat.le_of_ble_eq_true rfl) (P_X13_isWithin X x0 v8 v10 h11) (fun v12 h13 => ?_)
        show jv_O X M_X13_fall _ jeI 44 [some (.ref (x0)), some (.int (x1)), some (.int (x2)), some (.int (x3))] [.int (v12)] h13 _
        refine jv_if_eq (tgt := 53) (jv_dk t_X13_fall (k := 27) rfl) rfl (fun c14 => ?_) (fun c14 => ?_)
        · refine jv_iinc (v := 1) (L' := [some (.ref (x0)), some (.int (x1)), some (.int (x2)), some (.int (x3 + 1))]) (jv_dk t_X13_fall (k := 34) rfl) rfl (by decide) rfl ?_
          refine jv_goto (tgt := 6) (jv_dk t_X13_fall (k := 35) rfl) rfl ?_
          exact hR6 _ _ _ _ _ 
        · show jv_O _ _ _ _ 47 _ _ _ _
          refine jv_iload_n (jv_dk t_X13_fall (k := 28) rfl) rfl rfl ?_
          refine jv_iconst (v := 1) (jv_dk t_X13_fall (k := 29) rfl) (by decide) ?_
          refine jv_iload_n (jv_dk t_X13_fall (k := 30) rfl) rfl rfl ?_
          refine jv_ishl (jv_dk t_X13_fall (k := 31) rfl) ?_
          refine jv_ior (jv_dk t_X13_fall (k := 32) rfl) ?_
          refine jv_istore_n (L' := [some (.ref (x0)), some (.int (x1)), some (.int (x2 ||| (1 <<< (x3 &&& 31)))), some (.int (x3))]) (jv_dk t_X13_fall (k := 33) rfl) rfl (Nat.le_of_ble_eq_true rfl) rfl ?_
          refine jv_iinc (v := 1) (L' := [some (.ref (x0)), some (.int (x1)), some (.int (x2 ||| (1 <<< (x3 &&& 31)))), some (.int (x3 + 1))]) (jv_dk t_X13_fall (k := 34) rfl) rfl (by decide) rfl ?_
          refine jv_goto (tgt := 6) (jv_dk t_X13_fall (k := 35) rfl) rfl ?_
          exact hR6 _ _ _ _ _ 
def f_X13_fall (a0 : Nat) (a1 : Int32) (h : jh) : Option (Int32 × jh) :=
  jlp4 (f_X13_fall_h6 (fun y16 h15 =>
  some (y16, h15))) jfu a0 a1 (1 <<< (a1 &&& 31)) 0 h
theorem P_X13_fall (X : jx) (a0 : Nat) (a1 : Int32) (h : jh) : jv_P X M_X13_fall jeI [.ref (a0), .int (a1)] h (f_X13_fall a0 a1 h) := by
  refine jv_P.of (by decide) rfl (by simp [Value.category]) (Nat.le_of_ble_eq_true rfl) ?_
  show jv_O X M_X13_fall (h.1, h.2.1) jeI 0 [some (.ref (a0)), some (.int (a1)), none, none] [] h (f_X13_fall a0 a1 h)
  unfold f_X13_fall
  refine jv_iconst (v := 1) (jv_dk t_X13_fall (k := 0) rfl) (by decide) ?_
  refine jv_iload_n (jv_dk t_X13_fall (k := 1) rfl) rfl rfl ?_
  refine jv_ishl (jv_dk t_X13_fall (k := 2) rfl) ?_
  refine jv_istore_n (L' := [some (.ref (a0)), some (.int (a1)), some (.int (1 <<< (a1 &&& 31))), none]) (jv_dk t_X13_fall (k := 3) rfl) rfl (Nat.le_of_ble_eq_true rfl) rfl ?_
  refine jv_iconst (v := 0) (jv_dk t_X13_fall (k := 4) rfl) (by decide) ?_
  refine jv_istore_n (L' := [some (.ref (a0)), some (.int (a1)), some (.int (1 <<< (a1 &&& 31))), some (.int (0))]) (jv_dk t_X13_fall (k := 5) rfl) rfl (Nat.le_of_ble_eq_true rfl) rfl ?_
  refine o_f_X13_fall_h6 (fun y16 h15 => ?_) _ _ _ _ _ 
  show jv_O X M_X13_fall _ jeI 59 [none, none, some (.int (y16)), none] [] h15 _
  refine jv_iload_n (jv_dk t_X13_fall (k := 36) rfl) rfl rfl ?_
  exact jv_iret (ty := .int) (jv_dk t_X13_fall (k := 37) rfl) rfl rfl rfl
