def t0_X13_many : List (Nat × Instr × Nat) := [(0, .aload_n 0, 1), (1, .getfield 37, 3), (4, .sipush 592, 3), (7, .iload_n 1, 1), (8, .iadd, 1), (9, .iaload, 1), (10, .ireturn, 1)]
theorem t_X13_many : jv_dec cX13_many t0_X13_many = true := by decide +kernel
def M_X13_many : jm := (yX13_many, cX13_many, 2, (some .int), 0, 0, [])
def f_X13_many (a0 : Nat) (a1 : Int32) (h : jh) : Option (Int32 × jh) :=
  gR h a0 11 2 fun v1 =>
  aI h v1 (592 + a1) fun v2 =>
  some (v2, h)
theorem P_X13_many (X : jx) (a0 : Nat) (a1 : Int32) (h : jh) : jv_P X M_X13_many jeI [.ref (a0), .int (a1)] h (f_X13_many a0 a1 h) := by
  refine jv_P.of (by decide) rfl (by simp [Value.category]) (Nat.le_of_ble_eq_true rfl) ?_
  show jv_O X M_X13_many (h.1, h.2.1) jeI 0 [some (.ref (a0)), some (.int (a1))] [] h (f_X13_many a0 a1 h)
  unfold f_X13_many
  refine jv_aload_n (jv_dk t_X13_many (k := 0) rfl) rfl rfl (Or.inr ⟨_, rfl⟩) ?_
  refine jv_gR (jv_dk t_X13_many (k := 1) rfl) fl_X13_37 (fun v1 => ?_)
  refine jv_sipush (v := 592) (jv_dk t_X13_many (k := 2) rfl) (by decide) ?_
  refine jv_iload_n (jv_dk t_X13_many (k := 3) rfl) rfl rfl ?_
  refine jv_iadd (jv_dk t_X13_many (k := 4) rfl) ?_
  refine jv_iaload (jv_dk t_X13_many (k := 5) rfl) (fun v2 => ?_)
  exact jv_iret (ty := .int) (jv_dk t_X13_many (k := 6) rfl) rfl rfl rfl
def t0_X13_begin : List (Nat × Instr × Nat) := [(0, .aload_n 0, 1), (1, .iload_n 1, 1), (2, .invokevirtual 208, 3), (5, .bipush 8, 2), (7, .if_icmp .eq 14, 3), (10, .aload_n 0, 1), (11, .iload_n 1, 1), (12, .iload_n 2, 1), (13, .iconst 1, 1), (14, .invokevirtual 217, 3), (17, .iconst 4, 1), (18, .if_icmp .ne 5, 3), (21, .iconst (-1), 1), (22, .ireturn, 1), (23, .aload_n 0, 1), (24, .iload_n 1, 1), (25, .invokevirtual 208, 3), (28, .istore 4, 2), (30, .aload_n 0, 1), (31, .getfield 37, 3), (34, .sipush 592, 3), (37, .iload_n 1, 1), (38, .iadd, 1), (39, .dup2, 1), (40, .iaload, 1), (41, .iconst 1, 1), (42, .iadd, 1), (43, .iastore, 1), (44, .iload_n 1, 1), (45, .iload 4, 2), (47, .invokestatic 99, 3), (50, .istore 5, 2), (52, .iconst 0, 1), (53, .istore 6, 2), (55, .iload 6, 2), (57, .bipush 14, 2), (59, .if_icmp .ge 20, 3), (62, .aload_n 0, 1), (63, .getfield 37, 3), (66, .iload 5, 2), (68, .iload 6, 2), (70, .iadd, 1), (71, .iconst 0, 1), (72, .iastore, 1), (73, .iinc 6 1, 3), (76, .goto (-21), 3), (79, .aload_n 0, 1), (80, .getfield 37, 3), (83, .iload 5, 2), (85, .iconst 0, 1), (86, .iadd, 1), (87, .iload_n 2, 1), (88, .iastore, 1), (89, .aload_n 0, 1), (90, .getfield 37, 3), (93, .iload 5, 2), (95, .iconst 1, 1), (96, .iadd, 1), (97, .aload_n 0, 1), (98, .iload_n 1, 1), (99, .iload_n 2, 1), (100, .iconst 1, 1), (101, .invokevirtual 217, 3), (104, .iconst 1, 1), (105, .iadd, 1), (106, .iastore, 1), (107, .aload_n 0, 1), (108, .getfield 37, 3), (111, .iload 5, 2), (113, .iconst 2, 1), (114, .iadd, 1), (115, .iload_n 3, 1), (116, .iastore, 1), (117, .iload 4, 2), (119, .ireturn, 1)]
theorem t_X13_begin : jv_dec cX13_begin t0_X13_begin = true := by decide +kernel
def M_X13_begin : jm := (yX13_begin, cX13_begin, 7, (some .int), 2, 44, [])
theorem lk_X13_208 : Cond.methodLink RX13 208 M_X13_many.1 ∈ lw_tbl := (jv_at 1596 (by decide +kernel))
set_option maxRecDepth 20000 in
theorem me_X13_many : jv_me M_X13_many 1 := ⟨(jv_in6 (List.mem_of_getElem? (i := 239) rfl)), (jv_at 172 (by decide +kernel)), ⟨by decide, by decide⟩, by decide +kernel⟩
theorem mv_X13_many : jv_mv M_X13_many := ⟨(jv_at 1598 (by decide +kernel)), (jv_at 117 (by decide +kernel))⟩
def f_X13_begin_h55 (K55 : Nat → Int32 → Int32 → Int32 → Int32 → Int32 → jh → Option (Int32 × jh)) (R55 : Nat → Int32 → Int32 → Int32 → Int32 → Int32 → Int32 → jh → Option (Int32 × jh)) (x0 : Nat) (x1 : Int32) (x2 : Int32) (x3 : Int32) (x4 : Int32) (x5 : Int32) (x6 : Int32) (h : jh) : Option (Int32 × jh) :=
  (if 14 ≤ x6 then
  K55 x0 x1 x2 x3 x4 x5 h
  else
  gR h x0 11 2 fun v15 =>
  sI h v15 (x5 + x6) 0 fun h16 =>
  R55 x0 x1 x2 x3 x4 x5 (x6 + 1) h16)
theorem o_f_X13_begin_h55 {X : jx} {b0 : Nat × Nat} {K55 : Nat → Int32 → Int32 → Int32 → Int32 → Int32 → jh → Option (Int32 × jh)} (hK55 : ∀ (x0 : Nat) (x1 : Int32) (x2 : Int32) (x3 : Int32) (x4 : Int32) (x5 : Int32) (h : jh), jv_O X M_X13_begin b0 jeI 79 [some (.ref (x0)), some (.int (x1)), some (.int (x2)), some (.int (x3)), some (.int (x4)), some (.int (x5)), none] [] h (K55 x0 x1 x2 x3 x4 x5 h)) : ∀ (x0 : Nat) (x1 : Int32) (x2 : Int32) (x3 : Int32) (x4 : Int32) (x5 : Int32) (x6 : Int32) (h : jh), jv_O X M_X13_begin b0 jeI 55 [some (.ref (x0)), some (.int (x1)), some (.int (x2)), some (.int (x3)), some (.int (x4)), some (.int (x5)), some (.int (x6))] [] h (jlp7 (f_X13_begin_h55 K55) jfu x0 x1 x2 x3 x4 x5 x6 h) := by
  refine jlp7_ok (P := fun x0 x1 x2 x3 x4 x5 x6 h o => jv_O X M_X13_begin b0 jeI 55 [some (.ref (x0)), some (.int (x1)), some (.int (x2)), some (.int (x3)), some (.int (x4)), some (.int (x5)), some (.int (x6))] [] h o) (fun R55 hR55 => ?_) (fun _ _ _ _ _ _ _ _  => jv_none rfl) jfu
  intro x0 x1 x2 x3 x4 x5 x6 h
  unfold f_X13_begin_h55
  refine jv_iload (jv_dk t_X13_begin (k := 34) rfl) rfl ?_
  refine jv_bipush (v := 14) (jv_dk t_X13_begin (k := 35) rfl) (by decide) ?_
  refine jv_icmp_ge (tgt := 79) (jv_dk t_X13_begin (k := 36) rfl) rfl (fun c14 => ?_) (fun c14 => ?_)
  · refine jv_le_row (jv_le_s (jv_le_s (jv_le_s (jv_le_s (jv_le_s (jv_le_s (jv_le_n (jv_le_nil)))))))) ?_
    exact hK55 _ _ _ _ _ _ _ 
  · show jv_O _ _ _ _ 62 _ _ _ _
    refine jv_aload_n (jv_dk t_X13_begin (k := 37) rfl) rfl rfl (Or.inr ⟨_, rfl⟩) ?_
    refine jv_gR (jv_dk t_X13_begin (k := 38) rfl) fl_X13_37 (fun v15 => ?_)
    refine jv_iload (jv_dk t_X13_begin (k := 39) rfl) rfl ?_
    refine jv_iload (jv_dk t_X13_begin (k := 40) rfl) rfl ?_
    refine jv_iadd (jv_dk t_X13_begin (k := 41) rfl) ?_
    refine jv_iconst (v := 0) (jv_dk t_X13_begin (k := 42) rfl) (by decide) ?_
    refine jv_iastore (jv_dk t_X13_begin (k := 43) rfl) (fun h16 => ?_)
    refine jv_iinc (v := 1) (L' := [some (.ref (x0)), some (.int (x1)), some (.int (x2)), some (.int (x3)), some (.int (x4)), some (.int (x5)), some (.int (x6 + 1))]) (jv_dk t_X13_begin (k := 44) rfl) rfl (by decide) rfl ?_
    refine jv_goto (tgt := 55) (jv_dk t_X13_begin (k := 45) rfl) rfl ?_
    exact hR55 _ _ _ _ _ _ _ _ 
def f_X13_begin (a0 : Nat) (a1 : Int32) (a2 : Int32) (a3 : Int32) (h : jh) : Option (Int32 × jh) :=
  cV h a0 11 (f_X13_many a0 a1 h) fun v1 h2 =>
  (if v1 = 8 then
  some ((-1), h2)
  else
  cV h2 a0 11 (f_X13_spaceOf a0 a1 a2 1 h2) fun v4 h5 =>
  (if ¬ v4 = 4 then
  cV h5 a0 11 (f_X13_many a0 a1 h5) fun v7 h8 =>
  gR h8 a0 11 2 fun v9 =>
  aI h8 v9 (592 + a1) fun v10 =>
  sI h8 v9 (592 + a1) (v10 + 1) fun h11 =>
  bd (f_X13_spaceAt a1 v7 h11) fun v12 h13 =>
  jlp7 (f_X13_begin_h55 (fun y18 y19 y20 y21 y22 y23 h17 =>
  gR h17 y18 11 2 fun v24 =>
  sI h17 v24 (y23 + 0) y20 fun h25 =>
  gR h25 y18 11 2 fun v26 =>
  cV h25 y18 11 (f_X13_spaceOf y18 y19 y20 1 h25) fun v27 h28 =>
  sI h28 v26 (y23 + 1) (v27 + 1) fun h29 =>
  gR h29 y18 11 2 fun v30 =>
  sI h29 v30 (y23 + 2) y21 fun h31 =>
  some (y22, h31))) jfu a0 a1 a2 a3 v7 v12 0 h13
  else
  some ((-1), h5)))
theorem P_X13_begin (X : jx) (a0 : Nat) (a1 : Int32) (a2 : Int32) (a3 : Int32) (h : jh) : jv_P X M_X13_begin jeI [.ref (a0), .int (a1), .int (a2), .int (a3)] h (f_X13_begin a0 a1 a2 a3 h) := by
  refine jv_P.of (by decide) rfl (by simp [Value.category]) (Nat.le_of_ble_eq_true rfl) ?_
  show jv_O X M_X13_begin (h.1, h.2.1) jeI 0 [some (.ref (a0)), some (.int (a1)), some (.int (a2)), some (.int (a3)), none, none, none] [] h (f_X13_begin a0 a1 a2 a3 h)
  unfold f_X13_begin
  refine jv_aload_n (jv_dk t_X13_begin (k := 0) rfl) rfl rfl (Or.inr ⟨_, rfl⟩) ?_
  refine jv_iload_n (jv_dk t_X13_begin (k := 1) rfl) rfl rfl ?_
  refine jv_callV (en' := jeI) (pv := jpI) (As := [.int (a1)]) (S := []) (jv_dk t_X13_begin (k := 2) rfl) (fun _ => rfl) (Or.inl lk_X13_208) me_X13_many mv_X13_many ⟨by decide, by decide⟩ rfl rfl rfl (Nat.le_of_ble_eq_true rfl) (P_X13_many X a0 a1 h) (fun v1 h2 => ?_)
  show jv_O X M_X13_begin _ jeI 5 [some (.ref (a0)), some (.int (a1)), some (.int (a2)), some (.int (a3)), none, none, none] [.int (v1)] h2 _
  refine jv_bipush (v := 8) (jv_dk t_X13_begin (k := 3) rfl) (by decide) ?_
  refine jv_icmp_eq (tgt := 21) (jv_dk t_X13_begin (k := 4) rfl) rfl (fun c3 => ?_) (fun c3 => ?_)
  · refine jv_iconst (v := (-1)) (jv_dk t_X13_begin (k := 12) rfl) (by decide) ?_
    exact jv_iret (ty := .int) (jv_dk t_X13_begin (k := 13) rfl) rfl rfl rfl
  · show jv_O _ _ _ _ 10 _ _ _ _
    refine jv_aload_n (jv_dk t_X13_begin (k := 5) rfl) rfl rfl (Or.inr ⟨_, rfl⟩) ?_
    refine jv_iload_n (jv_dk t_X13_begin (k := 6) rfl) rfl rfl ?_
    refine jv_iload_n (jv_dk t_X13_begin (k := 7) rfl) rfl rfl ?_
    refine jv_iconst (v := 1) (jv_dk t_X13_begin (k := 8) rfl) (by decide) ?_
    refine jv_callV (en' := jeI) (pv := jpI) (As := [.int (a1), .int (a2), .int (1)]) (S := []) (jv_dk t_X13_begin (k := 9) rfl) (fun _ => rfl) (Or.inl lk_X13_217) me_X13_spaceOf mv_X13_spaceOf ⟨by decide, by decide⟩ rfl rfl rfl (Nat.le_of_ble_eq_true rfl) (P_X13_spaceOf X a0 a1 a2 1 h2) (fun v4 h5 => ?_)
    show jv_O X M_X13_begin _ jeI 17 [some (.ref (a0)), some (.int (a1)), some (.int (a2)), some (.int (a3)), none, none, none] [.int (v4)] h5 _
    refine jv_iconst (v := 4) (jv_dk t_X13_begin (k := 10) rfl) (by decide) ?_
    refine jv_icmp_ne (tgt := 23) (jv_dk t_X13_begin (k := 11) rfl) rfl (fun c6 => ?_) (fun c6 => ?_)
    · refine jv_aload_n (jv_dk t_X13_begin (k := 14) rfl) rfl rfl (Or.inr ⟨_, rfl⟩) ?_
      refine jv_iload_n (jv_dk t_X13_begin (k := 15) rfl) rfl rfl ?_
      refine jv_callV (en' := jeI) (pv := jpI) (As := [.int (a1)]) (S := []) (jv_dk t_X13_begin (k := 16) rfl) (fun _ => rfl) (Or.inl lk_X13_208) me_X13_many mv_X13_many ⟨by decide, by decide⟩ rfl rfl rfl (Nat.le_of_ble_eq_true rfl) (P_X13_many X a0 a1 h5) (fun v7 h8 => ?_)
      show jv_O X M_X13_begin _ jeI 28 [some (.ref (a0)), some (.int (a1)), some (.int (a2)), some (.int (a3)), none, none, none] [.int (v7)] h8 _
      refine jv_istore (L' := [some (.ref (a0)), some (.int (a1)), some (.int (a2)), some (.int (a3)), some (.int (v7)), none, none]) (jv_dk t_X13_begin (k := 17) rfl) (Nat.le_of_ble_eq_true rfl) rfl ?_
      refine jv_aload_n (jv_dk t_X13_begin (k := 18) rfl) rfl rfl (Or.inr ⟨_, rfl⟩) ?_
      refine jv_gR (jv_dk t_X13_begin (k := 19) rfl) fl_X13_37 (fun v9 => ?_)
      refine jv_sipush (v := 592) (jv_dk t_X13_begin (k := 20) rfl) (by decide) ?_
      refine jv_iload_n (jv_dk t_X13_begin (k := 21) rfl) rfl rfl ?_
      refine jv_iadd (jv_dk t_X13_begin (k := 22) rfl) ?_
      refine jv_dup2 (jv_dk t_X13_begin (k := 23) rfl) rfl rfl ?_
      refine jv_iaload (jv_dk t_X13_begin (k := 24) rfl) (fun v10 => ?_)
      refine jv_iconst (v := 1) (jv_dk t_X13_begin (k := 25) rfl) (by decide) ?_
      refine jv_iadd (jv_dk t_X13_begin (k := 26) rfl) ?_
      refine jv_iastore (jv_dk t_X13_begin (k := 27) rfl) (fun h11 => ?_)
      refine jv_iload_n (jv_dk t_X13_begin (k := 28) rfl) rfl rfl ?_
      refine jv_iload (jv_dk t_X13_begin (k := 29) rfl) rfl ?_
      refine jv_callS (en' := jeI) (pv := jpI) (As := [.int (a1), .int (v7)]) (S := []) (jv_dk t_X13_begin (k := 30) rfl) (fun _ => rfl) (Or.inl lk_X13_99) me_X13_spaceAt ms_X13_spaceAt ⟨by decide, by decide⟩ rfl rfl (Nat.le_of_ble_eq_true rfl) (P_X13_spaceAt X a1 v7 h11) (fun v12 h13 => ?_)
      show jv_O X M_X13_begin _ jeI 50 [some (.ref (a0)), some (.int (a1)), some (.int (a2)), some (.int (a3)), some (.int (v7)), none, none] [.int (v12)] h13 _
      refine jv_istore (L' := [some (.ref (a0)), some (.int (a1)), some (.int (a2)), some (.int (a3)), some (.int (v7)), some (.int (v12)), none]) (jv_dk t_X13_begin (k := 31) rfl) (Nat.le_of_ble_eq_true rfl) rfl ?_
      refine jv_iconst (v := 0) (jv_dk t_X13_begin (k := 32) rfl) (by decide) ?_
      refine jv_istore (L' := [some (.ref (a0)), some (.int (a1)), some (.int (a2)), some (.int (a3)), some (.int (v7)), some (.int (v12)), some (.int (0))]) (jv_dk t_X13_begin (k := 33) rfl) (Nat.le_of_ble_eq_true rfl) rfl ?_
      refine o_f_X13_begin_h55 (fun y18 y19 y20 y21 y22 y23 h17 => ?_) _ _ _ _ _ _ _ _ 
      show jv_O X M_X13_begin _ jeI 79 [some (.ref (y18)), some (.int (y19)), some (.int (y20)), some (.int (y21)), some (.int (y22)), some (.int (y23)), none] [] h17 _
      refine jv_aload_n (jv_dk t_X13_begin (k := 46) rfl) rfl rfl (Or.inr ⟨_, rfl⟩) ?_
      refine jv_gR (jv_dk t_X13_begin (k := 47) rfl) fl_X13_37 (fun v24 => ?_)
      refine jv_iload (jv_dk t_X13_begin (k := 48) rfl) rfl ?_
      refine jv_iconst (v := 0) (jv_dk t_X13_begin (k := 49) rfl) (by decide) ?_
      refine jv_iadd (jv_dk t_X13_begin (k := 50) rfl) ?_
      refine jv_iload_n (jv_dk t_X13_begin (k := 51) rfl) rfl rfl ?_
      refine jv_iastore (jv_dk t_X13_begin (k := 52) rfl) (fun h25 => ?_)
      refine jv_aload_n (jv_dk t_X13_begin (k := 53) rfl) rfl rfl (Or.inr ⟨_, rfl⟩) ?_
      refine jv_gR (jv_dk t_X13_begin (k := 54) rfl) fl_X13_37 (fun v26 => ?_)
      refine jv_iload (jv_dk t_X13_begin (k := 55) rfl) rfl ?_
      refine jv_iconst (v := 1) (jv_dk t_X13_begin (k := 56) rfl) (by decide) ?_
      refine jv_iadd (jv_dk t_X13_begin (k := 57) rfl) ?_
      refine jv_aload_n (jv_dk t_X13_begin (k := 58) rfl) rfl rfl (Or.inr ⟨_, rfl⟩) ?_
      refine jv_iload_n (jv_dk t_X13_begin (k := 59) rfl) rfl rfl ?_
      refine jv_iload_n (jv_dk t_X13_begin (k := 60) rfl) rfl rfl ?_
      refine jv_iconst (v := 1) (jv_dk t_X13_begin (k := 61) rfl) (by decide) ?_
      refine jv_callV (en' := jeI) (pv := jpI) (As := [.int (y19), .int (y20), .int (1)]) (S := [.int (y23 + 1), .ref (v26)]) (jv_dk t_X13_begin (k := 62) rfl) (fun _ => rfl) (Or.inl lk_X13_217) me_X13_spaceOf mv_X13_spaceOf ⟨by decide, by decide⟩ rfl rfl rfl (Nat.le_of_ble_eq_true rfl) (P_X13_spaceOf X y18 y19 y20 1 h25) (fun v27 h28 => ?_)
      show jv_O X M_X13_begin _ jeI 104 [some (.ref (y18)), some (.int (y19)), some (.int (y20)), some (.int (y21)), some (.int (y22)), some (.int (y23)), none] [.int (v27), .int (y23 + 1), .ref (v26)] h28 _
      refine jv_iconst (v := 1) (jv_dk t_X13_begin (k := 63) rfl) (by decide) ?_
      refine jv_iadd (jv_dk t_X13_begin (k := 64) rfl) ?_
      refine jv_iastore (jv_dk t_X13_begin (k := 65) rfl) (fun h29 => ?_)
      refine jv_aload_n (jv_dk t_X13_begin (k := 66) rfl) rfl rfl (Or.inr ⟨_, rfl⟩) ?_
      refine jv_gR (jv_dk t_X13_begin (k := 67) rfl) fl_X13_37 (fun v30 => ?_)
      refine jv_iload (jv_dk t_X13_begin (k := 68) rfl) rfl ?_
      refine jv_iconst (v := 2) (jv_dk t_X13_begin (k := 69) rfl) (by decide) ?_
      refine jv_iadd (jv_dk t_X13_begin (k := 70) rfl) ?_
      refine jv_iload_n (jv_dk t_X13_begin (k := 71) rfl) rfl rfl ?_
      refine jv_iastore (jv_dk t_X13_begin (k := 72) rfl) (fun h31 => ?_)
      refine jv_iload (jv_dk t_X13_begin (k := 73) rfl) rfl ?_
      exact jv_iret (ty := .int) (jv_dk t_X13_begin (k := 74) rfl) rfl rfl rfl
    · show jv_O _ _ _ _ 21 _ _ _ _
      refine jv_iconst (v := (-1)) (jv_dk t_X13_begin (k := 12) rfl) (by decide) ?_
      exact jv_iret (ty := .int) (jv_dk t_X13_begin (k := 13) rfl) rfl rfl rfl
def t0_X13_createNow : List (Nat × Instr × Nat) := [(0, .iload_n 2, 1), (1, .iconst 1, 1), (2, .if_icmp .eq 13, 3), (5, .aload_n 0, 1), (6, .iload_n 1, 1), (7, .bipush 7, 2), (9, .invokevirtual 205, 3), (12, .ifCond .eq 22, 3), (15, .iload_n 2, 1), (16, .ifCond .ne 20, 3), (19, .aload_n 0, 1), (20, .iload_n 1, 1), (21, .iconst 5, 1), (22, .invokevirtual 205, 3), (25, .aload_n 0, 1), (26, .iload_n 1, 1), (27, .iconst 2, 1), (28, .invokevirtual 205, 3), (31, .if_icmp .eq 5, 3), (34, .iconst (-1), 1), (35, .ireturn, 1), (36, .aload_n 0, 1), (37, .iload_n 2, 1), (38, .aload_n 0, 1), (39, .iload_n 1, 1), (40, .iload_n 2, 1), (41, .iconst 1, 1), (42, .if_icmp .ne 7, 3), (45, .iconst 3, 1), (46, .goto 12, 3), (49, .iload_n 2, 1), (50, .ifCond .ne 7, 3), (53, .iconst 2, 1), (54, .goto 4, 3), (57, .iconst 4, 1), (58, .invokevirtual 205, 3), (61, .iload_n 2, 1), (62, .iconst 1, 1), (63, .if_icmp .ne 13, 3), (66, .aload_n 0, 1), (67, .iload_n 1, 1), (68, .bipush 6, 2), (70, .invokevirtual 205, 3), (73, .goto 9, 3), (76, .aload_n 0, 1), (77, .iload_n 1, 1), (78, .iconst 3, 1), (79, .invokevirtual 205, 3), (82, .invokevirtual 251, 3), (85, .istore_n 3, 1), (86, .iload_n 3, 1), (87, .iconst (-1), 1), (88, .if_icmp .ne 5, 3), (91, .iconst (-1), 1), (92, .ireturn, 1), (93, .iload_n 2, 1), (94, .ifCond .ne 30, 3), (97, .aload_n 0, 1), (98, .getfield 37, 3), (101, .iload_n 2, 1), (102, .iload_n 3, 1), (103, .invokestatic 99, 3), (106, .iconst 3, 1), (107, .iadd, 1), (108, .iconst 1, 1), (109, .iastore, 1), (110, .aload_n 0, 1), (111, .getfield 37, 3), (114, .iload_n 1, 1), (115, .iconst 5, 1), (116, .invokestatic 248, 3), (119, .iload_n 3, 1), (120, .iastore, 1), (121, .goto 91, 3), (124, .iload_n 2, 1), (125, .iconst 1, 1), (126, .if_icmp .ne 29, 3), (129, .aload_n 0, 1), (130, .getfield 37, 3), (133, .iload_n 1, 1), (134, .iconst 3, 1), (135, .invokestatic 248, 3), (138, .iload_n 3, 1), (139, .iastore, 1), (140, .aload_n 0, 1), (141, .getfield 37, 3), (144, .iload_n 1, 1), (145, .bipush 7, 2), (147, .invokestatic 248, 3), (150, .iconst 1, 1), (151, .iastore, 1), (152, .goto 60, 3), (155, .iconst 0, 1), (156, .istore 4, 2), (158, .iload 4, 2), (160, .bipush 8, 2), (162, .if_icmp .ge 39, 3), (165, .aload_n 0, 1), (166, .getfield 37, 3), (169, .iload_n 2, 1), (170, .iload_n 3, 1), (171, .invokestatic 99, 3), (174, .iconst 4, 1), (175, .iadd, 1), (176, .iload 4, 2), (178, .iadd, 1), (179, .aload_n 0, 1), (180, .iload_n 2, 1), (181, .aload_n 0, 1), (182, .iload_n 1, 1), (183, .iconst 4, 1), (184, .invokevirtual 205, 3), (187, .iconst 4, 1), (188, .iload 4, 2), (190, .iadd, 1), (191, .invokevirtual 217, 3), (194, .iastore, 1), (195, .iinc 4 1, 3), (198, .goto (-40), 3), (201, .aload_n 0, 1), (202, .getfield 37, 3), (205, .iload_n 1, 1), (206, .iconst 4, 1), (207, .invokestatic 248, 3), (210, .iload_n 3, 1), (211, .iastore, 1), (212, .iload_n 3, 1), (213, .ireturn, 1)]
theorem t_X13_createNow : jv_dec cX13_createNow t0_X13_createNow = true := by decide +kernel
def M_X13_createNow : jm := (yX13_createNow, cX13_createNow, 5, (some .int), 3, 70, [])
theorem lk_X13_251 : Cond.methodLink RX13 251 M_X13_begin.1 ∈ lw_tbl := (jv_at 1592 (by decide +kernel))
set_option maxRecDepth 20000 in
theorem me_X13_begin : jv_me M_X13_begin 3 := ⟨(jv_in6 (List.mem_of_getElem? (i := 235) rfl)), (jv_at 172 (by decide +kernel)), ⟨by decide, by decide⟩, by decide +kernel⟩
theorem mv_X13_begin : jv_mv M_X13_begin := ⟨(jv_at 1594 (by decide +kernel)), (jv_at 116 (by decide +kernel))⟩
def f_X13_createNow_h158 (K158 : Nat → Int32 → Int32 → jh → Option (Int32 × jh)) (R158 : Nat → Int32 → Int32 → Int32 → Int32 → jh → Option (Int32 × jh)) (x0 : Nat) (x1 : Int32) (x2 : Int32) (x3 : Int32) (x4 : Int32) (h : jh) : Option (Int32 × jh) :=
  (if 8 ≤ x4 then
  K158 x0 x1 x3 h
  else
  gR h x0 11 2 fun v16 =>
  bd (f_X13_spaceAt x2 x3 h) fun v17 h18 =>
  cV h18 x0 11 (f_X13_of x0 x1 4 h18) fun v19 h20 =>
  cV h20 x0 11 (f_X13_spaceOf x0 x2 v19 (4 + x4) h20) fun v21 h22 =>
  sI h22 v16 ((v17 + 4) + x4) v21 fun h23 =>
  R158 x0 x1 x2 x3 (x4 + 1) h23)
theorem o_f_X13_createNow_h158 {X : jx} {b0 : Nat × Nat} {K158 : Nat → Int32 → Int32 → jh → Option (Int32 × jh)} (hK158 : ∀ (x0 : Nat) (x1 : Int32) (x3 : Int32) (h : jh), jv_O X M_X13_createNow b0 jeI 201 [some (.ref (x0)), some (.int (x1)), none, some (.int (x3)), none] [] h (K158 x0 x1 x3 h)) : ∀ (x0 : Nat) (x1 : Int32) (x2 : Int32) (x3 : Int32) (x4 : Int32) (h : jh), jv_O X M_X13_createNow b0 jeI 158 [some (.ref (x0)), some (.int (x1)), some (.int (x2)), some (.int (x3)), some (.int (x4))] [] h (jlp5 (f_X13_createNow_h158 K158) jfu x0 x1 x2 x3 x4 h) := by
  refine jlp5_ok (P := fun x0 x1 x2 x3 x4 h o => jv_O X M_X13_createNow b0 jeI 158 [some (.ref (x0)), some (.int (x1)), some (.int (x2)), some (.int (x3)), some (.int (x4))] [] h o) (fun R158 hR158 => ?_) (fun _ _ _ _ _ _  => jv_none rfl) jfu
  intro x0 x1 x2 x3 x4 h
  unfold f_X13_createNow_h158
  refine jv_iload (jv_dk t_X13_createNow (k := 94) rfl) rfl ?_
  refine jv_bipush (v := 8) (jv_dk t_X13_createNow (k := 95) rfl) (by decide) ?_
  refine jv_icmp_ge (tgt := 201) (jv_dk t_X13_createNow (k := 96) rfl) rfl (fun c15 => ?_) (fun c15 => ?_)
  · refine jv_le_row (jv_le_s (jv_le_s (jv_le_n (jv_le_s (jv_le_n (jv_le_nil)))))) ?_
    exact hK158 _ _ _ _ 
  · show jv_O _ _ _ _ 165 _ _ _ _
    refine jv_aload_n (jv_dk t_X13_createNow (k := 97) rfl) rfl rfl (Or.inr ⟨_, rfl⟩) ?_
    refine jv_gR (jv_dk t_X13_createNow (k := 98) rfl) fl_X13_37 (fun v16 => ?_)
    refine jv_iload_n (jv_dk t_X13_createNow (k := 99) rfl) rfl rfl ?_
    refine jv_iload_n (jv_dk t_X13_createNow (k := 100) rfl) rfl rfl ?_
    refine jv_callS (en' := jeI) (pv := jpI) (As := [.int (x2), .int (x3)]) (S := [.ref (v16)]) (jv_dk t_X13_createNow (k := 101) rfl) (fun _ => rfl) (Or.inl lk_X13_99) me_X13_spaceAt ms_X13_spaceAt ⟨by decide, by decide⟩ rfl rfl (Nat.le_of_ble_eq_true rfl) (P_X13_spaceAt X x2 x3 h) (fun v17 h18 => ?_)
    show jv_O X M_X13_createNow _ jeI 174 [some (.ref (x0)), some (.int (x1)), some (.int (x2)), some (.int (x3)), some (.int (x4))] [.int (v17), .ref (v16)] h18 _
    refine jv_iconst (v := 4) (jv_dk t_X13_createNow (k := 102) rfl) (by decide) ?_
    refine jv_iadd (jv_dk t_X13_createNow (k := 103) rfl) ?_
    refine jv_iload (jv_dk t_X13_createNow (k := 104) rfl) rfl ?_
    refine jv_iadd (jv_dk t_X13_createNow (k := 105) rfl) ?_
    refine jv_aload_n (jv_dk t_X13_createNow (k := 106) rfl) rfl rfl (Or.inr ⟨_, rfl⟩) ?_
    refine jv_iload_n (jv_dk t_X13_createNow (k := 107) rfl) rfl rfl ?_
    refine jv_aload_n (jv_dk t_X13_createNow (k := 108) rfl) rfl rfl (Or.inr ⟨_, rfl⟩) ?_
    refine jv_iload_n (jv_dk t_X13_createNow (k := 109) rfl) rfl rfl ?_
    refine jv_iconst (v := 4) (jv_dk t_X13_createNow (k := 110) rfl) (by decide) ?_
    refine jv_callV (en' := jeI) (pv := jpI) (As := [.int (x1), .int (4)]) (S := [.int (x2), .ref (x0), .int ((v17 + 4) + x4), .ref (v16)]) (jv_dk t_X13_createNow (k := 111) rfl) (fun _ => rfl) (Or.inl lk_X13_205) me_X13_of mv_X13_of ⟨by decide, by decide⟩ rfl rfl rfl (Nat.le_of_ble_eq_true rfl) (P_X13_of X x0 x1 4 h18) (fun v19 h20 => ?_)
    show jv_O X M_X13_createNow _ jeI 187 [some (.ref (x0)), some (.int (x1)), some (.int (x2)), some (.int (x3)), some (.int (x4))] [.int (v19), .int (x2), .ref (x0), .int ((v17 + 4) + x4), .ref (v16)] h20 _
    refine jv_iconst (v := 4) (jv_dk t_X13_createNow (k := 112) rfl) (by decide) ?_
    refine jv_iload (jv_dk t_X13_createNow (k := 113) rfl) rfl ?_
    refine jv_iadd (jv_dk t_X13_createNow (k := 114) rfl) ?_
    refine jv_callV (en' := jeI) (pv := jpI) (As := [.int (x2), .int (v19), .int (4 + x4)]) (S := [.int ((v17 + 4) + x4), .ref (v16)]) (jv_dk t_X13_createNow (k := 115) rfl) (fun _ => rfl) (Or.inl lk_X13_217) me_X13_spaceOf mv_X13_spaceOf ⟨by decide, by decide⟩ rfl rfl rfl (Nat.le_of_ble_eq_true rfl) (P_X13_spaceOf X x0 x2 v19 (4 + x4) h20) (fun v21 h22 => ?_)
    show jv_O X M_X13_createNow _ jeI 194 [some (.ref (x0)), some (.int (x1)), some (.int (x2)), some (.int (x3)), some (.int (x4))] [.int (v21), .int ((v17 + 4) + x4), .ref (v16)] h22 _
    refine jv_iastore (jv_dk t_X13_createNow (k := 116) rfl) (fun h23 => ?_)
    refine jv_iinc (v := 1) (L' := [some (.ref (x0)), some (.int (x1)), some (.int (x2)), some (.int (x3)), some (.int (x4 + 1))]) (jv_dk t_X13_createNow (k := 117) rfl) rfl (by decide) rfl ?_
    refine jv_goto (tgt := 158) (jv_dk t_X13_createNow (k := 118) rfl) rfl ?_
    exact hR158 _ _ _ _ _ _ 
def f_X13_createNow_b82 (x0 : Nat) (x1 : Int32) (x2 : Int32) (s0 : Int32) (s1 : Int32) (s2 : Int32) (s3 : Nat) (h : jh) : Option (Int32 × jh) :=
  cV h s3 11 (f_X13_begin s3 s2 s1 s0 h) fun v10 h11 =>
  (if ¬ v10 = (-1) then
  (if ¬ x2 = 0 then
  (if ¬ x2 = 1 then
  jlp5 (f_X13_createNow_h158 (fun y25 y26 y27 h24 =>
  gR h24 y25 11 2 fun v28 =>
  bd (f_X13_processAt y26 4 h24) fun v29 h30 =>
  sI h30 v28 v29 y27 fun h31 =>
  some (y27, h31))) jfu x0 x1 x2 v10 0 h11
  else
  gR h11 x0 11 2 fun v32 =>
  bd (f_X13_processAt x1 3 h11) fun v33 h34 =>
  sI h34 v32 v33 v10 fun h35 =>
  gR h35 x0 11 2 fun v36 =>
  bd (f_X13_processAt x1 7 h35) fun v37 h38 =>
  sI h38 v36 v37 1 fun h39 =>
  some (v10, h39))
  else
  gR h11 x0 11 2 fun v40 =>
  bd (f_X13_spaceAt x2 v10 h11) fun v41 h42 =>
  sI h42 v40 (v41 + 3) 1 fun h43 =>
  gR h43 x0 11 2 fun v44 =>
  bd (f_X13_processAt x1 5 h43) fun v45 h46 =>
  sI h46 v44 v45 v10 fun h47 =>
  some (v10, h47))
  else
  some ((-1), h11))
theorem o_f_X13_createNow_b82 {X : jx} {b0 : Nat × Nat} (x0 : Nat) (x1 : Int32) (x2 : Int32) (s0 : Int32) (s1 : Int32) (s2 : Int32) (s3 : Nat) (h : jh) : jv_O X M_X13_createNow b0 jeI 82 [some (.ref (x0)), some (.int (x1)), some (.int (x2)), none, none] [.int (s0), .int (s1), .int (s2), .ref (s3)] h (f_X13_createNow_b82 x0 x1 x2 s0 s1 s2 s3 h) := by
  unfold f_X13_createNow_b82
  refine jv_callV (en' := jeI) (pv := jpI) (As := [.int (s2), .int (s1), .int (s0)]) (S := []) (jv_dk t_X13_createNow (k := 48) rfl) (fun _ => rfl) (Or.inl lk_X13_251) me_X13_begin mv_X13_begin ⟨by decide, by decide⟩ rfl rfl rfl (Nat.le_of_ble_eq_true rfl) (P_X13_begin X s3 s2 s1 s0 h) (fun v10 h11 => ?_)
  show jv_O X M_X13_createNow _ jeI 85 [some (.ref (x0)), some (.int (x1)), some (.int (x2)), none, none] [.int (v10)] h11 _
  refine jv_istore_n (L' := [some (.ref (x0)), some (.int (x1)), some (.int (x2)), some (.int (v10)), none]) (jv_dk t_X13_createNow (k := 49) rfl) rfl (Nat.le_of_ble_eq_true rfl) rfl ?_
  refine jv_iload_n (jv_dk t_X13_createNow (k := 50) rfl) rfl rfl ?_
  refine jv_iconst (v := (-1)) (jv_dk t_X13_createNow (k := 51) rfl) (by decide) ?_
  refine jv_icmp_ne (tgt := 93) (jv_dk t_X13_createNow (k := 52) rfl) rfl (fun c12 => ?_) (fun c12 => ?_)
  · refine jv_iload_n (jv_dk t_X13_createNow (k := 55) rfl) rfl rfl ?_
    refine jv_if_ne (tgt := 124) (jv_dk t_X13_createNow (k := 56) rfl) rfl (fun c13 => ?_) (fun c13 => ?_)
    · refine jv_iload_n (jv_dk t_X13_createNow (k := 74) rfl) rfl rfl ?_
      refine jv_iconst (v := 1) (jv_dk t_X13_createNow (k := 75) rfl) (by decide) ?_
      refine jv_icmp_ne (tgt := 155) (jv_dk t_X13_createNow (k := 76) rfl) rfl (fun c14 => ?_) (fun c14 => ?_)
      · refine jv_iconst (v := 0) (jv_dk t_X13_createNow (k := 92) rfl) (by decide) ?_
        refine jv_istore (L' := [some (.ref (x0)), some (.int (x1)), some (.int (x2)), some (.int (v10)), some (.int (0))]) (jv_dk t_X13_createNow (k := 93) rfl) (Nat.le_of_ble_eq_true rfl) rfl ?_
        refine o_f_X13_createNow_h158 (fun y25 y26 y27 h24 => ?_) _ _ _ _ _ _ 
        show jv_O X M_X13_createNow _ jeI 201 [some (.ref (y25)), some (.int (y26)), none, some (.int (y27)), none] [] h24 _
        refine jv_aload_n (jv_dk t_X13_createNow (k := 119) rfl) rfl rfl (Or.inr ⟨_, rfl⟩) ?_
        refine jv_gR (jv_dk t_X13_createNow (k := 120) rfl) fl_X13_37 (fun v28 => ?_)
        refine jv_iload_n (jv_dk t_X13_createNow (k := 121) rfl) rfl rfl ?_
        refine jv_iconst (v := 4) (jv_dk t_X13_createNow (k := 122) rfl) (by decide) ?_
        refine jv_callS (en' := jeI) (pv := jpI) (As := [.int (y26), .int (4)]) (S := [.ref (v28)]) (jv_dk t_X13_createNow (k := 123) rfl) (fun _ => rfl) (Or.inl lk_X13_248) me_X13_processAt ms_X13_processAt ⟨by decide, by decide⟩ rfl rfl (Nat.le_of_ble_eq_true rfl) (P_X13_processAt X y26 4 h24) (fun v29 h30 => ?_)
        show jv_O X M_X13_createNow _ jeI 210 [some (.ref (y25)), some (.int (y26)), none, some (.int (y27)), none] [.int (v29), .ref (v28)] h30 _
        refine jv_iload_n (jv_dk t_X13_createNow (k := 124) rfl) rfl rfl ?_
        refine jv_iastore (jv_dk t_X13_createNow (k := 125) rfl) (fun h31 => ?_)
        refine jv_iload_n (jv_dk t_X13_createNow (k := 126) rfl) rfl rfl ?_
        exact jv_iret (ty := .int) (jv_dk t_X13_createNow (k := 127) rfl) rfl rfl rfl
      · show jv_O _ _ _ _ 129 _ _ _ _
        refine jv_aload_n (jv_dk t_X13_createNow (k := 77) rfl) rfl rfl (Or.inr ⟨_, rfl⟩) ?_
        refine jv_gR (jv_dk t_X13_createNow (k := 78) rfl) fl_X13_37 (fun v32 => ?_)
        refine jv_iload_n (jv_dk t_X13_createNow (k := 79) rfl) rfl rfl ?_
        refine jv_iconst (v := 3) (jv_dk t_X13_createNow (k := 80) rfl) (by decide) ?_
        refine jv_callS (en' := jeI) (pv := jpI) (As := [.int (x1), .int (3)]) (S := [.ref (v32)]) (jv_dk t_X13_createNow (k := 81) rfl) (fun _ => rfl) (Or.inl lk_X13_248) me_X13_processAt ms_X13_processAt ⟨by decide, by decide⟩ rfl rfl (Nat.le_of_ble_eq_true rfl) (P_X13_processAt X x1 3 h11) (fun v33 h34 => ?_)
        show jv_O X M_X13_createNow _ jeI 138 [some (.ref (x0)), some (.int (x1)), some (.int (x2)), some (.int (v10)), none] [.int (v33), .ref (v32)] h34 _
        refine jv_iload_n (jv_dk t_X13_createNow (k := 82) rfl) rfl rfl ?_
        refine jv_iastore (jv_dk t_X13_createNow (k := 83) rfl) (fun h35 => ?_)
        refine jv_aload_n (jv_dk t_X13_createNow (k := 84) rfl) rfl rfl (Or.inr ⟨_, rfl⟩) ?_
        refine jv_gR (jv_dk t_X13_createNow (k := 85) rfl) fl_X13_37 (fun v36 => ?_)
        refine jv_iload_n (jv_dk t_X13_createNow (k := 86) rfl) rfl rfl ?_
        refine jv_bipush (v := 7) (jv_dk t_X13_createNow (k := 87) rfl) (by decide) ?_
        refine jv_callS (en' := jeI) (pv := jpI) (As := [.int (x1), .int (7)]) (S := [.ref (v36)]) (jv_dk t_X13_createNow (k := 88) rfl) (fun _ => rfl) (Or.inl lk_X13_248) me_X13_processAt ms_X13_processAt ⟨by decide, by decide⟩ rfl rfl (Nat.le_of_ble_eq_true rfl) (P_X13_processAt X x1 7 h35) (fun v37 h38 => ?_)
        show jv_O X M_X13_createNow _ jeI 150 [some (.ref (x0)), some (.int (x1)), some (.int (x2)), some (.int (v10)), none] [.int (v37), .ref (v36)] h38 _
        refine jv_iconst (v := 1) (jv_dk t_X13_createNow (k := 89) rfl) (by decide) ?_
        refine jv_iastore (jv_dk t_X13_createNow (k := 90) rfl) (fun h39 => ?_)
        refine jv_goto (tgt := 212) (jv_dk t_X13_createNow (k := 91) rfl) rfl ?_
        refine jv_iload_n (jv_dk t_X13_createNow (k := 126) rfl) rfl rfl ?_
        exact jv_iret (ty := .int) (jv_dk t_X13_createNow (k := 127) rfl) rfl rfl rfl
    · show jv_O _ _ _ _ 97 _ _ _ _
      refine jv_aload_n (jv_dk t_X13_createNow (k := 57) rfl) rfl rfl (Or.inr ⟨_, rfl⟩) ?_
      refine jv_gR (jv_dk t_X13_createNow (k := 58) rfl) fl_X13_37 (fun v40 => ?_)
      refine jv_iload_n (jv_dk t_X13_createNow (k := 59) rfl) rfl rfl ?_
      refine jv_iload_n (jv_dk t_X13_createNow (k := 60) rfl) rfl rfl ?_
      refine jv_callS (en' := jeI) (pv := jpI) (As := [.int (x2), .int (v10)]) (S := [.ref (v40)]) (jv_dk t_X13_createNow (k := 61) rfl) (fun _ => rfl) (Or.inl lk_X13_99) me_X13_spaceAt ms_X13_spaceAt ⟨by decide, by decide⟩ rfl rfl (Nat.le_of_ble_eq_true rfl) (P_X13_spaceAt X x2 v10 h11) (fun v41 h42 => ?_)
      show jv_O X M_X13_createNow _ jeI 106 [some (.ref (x0)), some (.int (x1)), some (.int (x2)), some (.int (v10)), none] [.int (v41), .ref (v40)] h42 _
      refine jv_iconst (v := 3) (jv_dk t_X13_createNow (k := 62) rfl) (by decide) ?_
      refine jv_iadd (jv_dk t_X13_createNow (k := 63) rfl) ?_
      refine jv_iconst (v := 1) (jv_dk t_X13_createNow (k := 64) rfl) (by decide) ?_
      refine jv_iastore (jv_dk t_X13_createNow (k := 65) rfl) (fun h43 => ?_)
      refine jv_aload_n (jv_dk t_X13_createNow (k := 66) rfl) rfl rfl (Or.inr ⟨_, rfl⟩) ?_
      refine jv_gR (jv_dk t_X13_createNow (k := 67) rfl) fl_X13_37 (fun v44 => ?_)
      refine jv_iload_n (jv_dk t_X13_createNow (k := 68) rfl) rfl rfl ?_
      refine jv_iconst (v := 5) (jv_dk t_X13_createNow (k := 69) rfl) (by decide) ?_
      refine jv_callS (en' := jeI) (pv := jpI) (As := [.int (x1), .int (5)]) (S := [.ref (v44)]) (jv_dk t_X13_createNow (k := 70) rfl) (fun _ => rfl) (Or.inl lk_X13_248) me_X13_processAt ms_X13_processAt ⟨by decide, by decide⟩ rfl rfl (Nat.le_of_ble_eq_true rfl) (P_X13_processAt X x1 5 h43) (fun v45 h46 => ?_)
      show jv_O X M_X13_createNow _ jeI 119 [some (.ref (x0)), some (.int (x1)), some (.int (x2)), some (.int (v10)), none] [.int (v45), .ref (v44)] h46 _
      refine jv_iload_n (jv_dk t_X13_createNow (k := 71) rfl) rfl rfl ?_
      refine jv_iastore (jv_dk t_X13_createNow (k := 72) rfl) (fun h47 => ?_)
      refine jv_goto (tgt := 212) (jv_dk t_X13_createNow (k := 73) rfl) rfl ?_
      refine jv_iload_n (jv_dk t_X13_createNow (k := 126) rfl) rfl rfl ?_
      exact jv_iret (ty := .int) (jv_dk t_X13_createNow (k := 127) rfl) rfl rfl rfl
  · show jv_O _ _ _ _ 91 _ _ _ _
    refine jv_iconst (v := (-1)) (jv_dk t_X13_createNow (k := 53) rfl) (by decide) ?_
    exact jv_iret (ty := .int) (jv_dk t_X13_createNow (k := 54) rfl) rfl rfl rfl
def f_X13_createNow_b58 (x0 : Nat) (x1 : Int32) (x2 : Int32) (s0 : Int32) (s1 : Int32) (s2 : Nat) (s3 : Int32) (s4 : Nat) (h : jh) : Option (Int32 × jh) :=
  cV h s2 11 (f_X13_of s2 s1 s0 h) fun v5 h6 =>
  (if ¬ x2 = 1 then
  cV h6 x0 11 (f_X13_of x0 x1 3 h6) fun v8 h9 =>
  f_X13_createNow_b82 x0 x1 x2 v8 v5 s3 s4 h9
  else
  cV h6 x0 11 (f_X13_of x0 x1 6 h6) fun v48 h49 =>
  f_X13_createNow_b82 x0 x1 x2 v48 v5 s3 s4 h49)
theorem o_f_X13_createNow_b58 {X : jx} {b0 : Nat × Nat} (x0 : Nat) (x1 : Int32) (x2 : Int32) (s0 : Int32) (s1 : Int32) (s2 : Nat) (s3 : Int32) (s4 : Nat) (h : jh) : jv_O X M_X13_createNow b0 jeI 58 [some (.ref (x0)), some (.int (x1)), some (.int (x2)), none, none] [.int (s0), .int (s1), .ref (s2), .int (s3), .ref (s4)] h (f_X13_createNow_b58 x0 x1 x2 s0 s1 s2 s3 s4 h) := by
  unfold f_X13_createNow_b58
  refine jv_callV (en' := jeI) (pv := jpI) (As := [.int (s1), .int (s0)]) (S := [.int (s3), .ref (s4)]) (jv_dk t_X13_createNow (k := 35) rfl) (fun _ => rfl) (Or.inl lk_X13_205) me_X13_of mv_X13_of ⟨by decide, by decide⟩ rfl rfl rfl (Nat.le_of_ble_eq_true rfl) (P_X13_of X s2 s1 s0 h) (fun v5 h6 => ?_)
  show jv_O X M_X13_createNow _ jeI 61 [some (.ref (x0)), some (.int (x1)), some (.int (x2)), none, none] [.int (v5), .int (s3), .ref (s4)] h6 _
  refine jv_iload_n (jv_dk t_X13_createNow (k := 36) rfl) rfl rfl ?_
  refine jv_iconst (v := 1) (jv_dk t_X13_createNow (k := 37) rfl) (by decide) ?_
  refine jv_icmp_ne (tgt := 76) (jv_dk t_X13_createNow (k := 38) rfl) rfl (fun c7 => ?_) (fun c7 => ?_)
  · refine jv_aload_n (jv_dk t_X13_createNow (k := 44) rfl) rfl rfl (Or.inr ⟨_, rfl⟩) ?_
    refine jv_iload_n (jv_dk t_X13_createNow (k := 45) rfl) rfl rfl ?_
    refine jv_iconst (v := 3) (jv_dk t_X13_createNow (k := 46) rfl) (by decide) ?_
    refine jv_callV (en' := jeI) (pv := jpI) (As := [.int (x1), .int (3)]) (S := [.int (v5), .int (s3), .ref (s4)]) (jv_dk t_X13_createNow (k := 47) rfl) (fun _ => rfl) (Or.inl lk_X13_205) me_X13_of mv_X13_of ⟨by decide, by decide⟩ rfl rfl rfl (Nat.le_of_ble_eq_true rfl) (P_X13_of X x0 x1 3 h6) (fun v8 h9 => ?_)
    show jv_O X M_X13_createNow _ jeI 82 [some (.ref (x0)), some (.int (x1)), some (.int (x2)), none, none] [.int (v8), .int (v5), .int (s3), .ref (s4)] h9 _
    exact o_f_X13_createNow_b82 _ _ _ _ _ _ _ _ 
  · show jv_O _ _ _ _ 66 _ _ _ _
    refine jv_aload_n (jv_dk t_X13_createNow (k := 39) rfl) rfl rfl (Or.inr ⟨_, rfl⟩) ?_
    refine jv_iload_n (jv_dk t_X13_createNow (k := 40) rfl) rfl rfl ?_
    refine jv_bipush (v := 6) (jv_dk t_X13_createNow (k := 41) rfl) (by decide) ?_
    refine jv_callV (en' := jeI) (pv := jpI) (As := [.int (x1), .int (6)]) (S := [.int (v5), .int (s3), .ref (s4)]) (jv_dk t_X13_createNow (k := 42) rfl) (fun _ => rfl) (Or.inl lk_X13_205) me_X13_of mv_X13_of ⟨by decide, by decide⟩ rfl rfl rfl (Nat.le_of_ble_eq_true rfl) (P_X13_of X x0 x1 6 h6) (fun v48 h49 => ?_)
    show jv_O X M_X13_createNow _ jeI 73 [some (.ref (x0)), some (.int (x1)), some (.int (x2)), none, none] [.int (v48), .int (v5), .int (s3), .ref (s4)] h49 _
    refine jv_goto (tgt := 82) (jv_dk t_X13_createNow (k := 43) rfl) rfl ?_
    exact o_f_X13_createNow_b82 _ _ _ _ _ _ _ _ 
def f_X13_createNow_b36 (x0 : Nat) (x1 : Int32) (x2 : Int32) (h : jh) : Option (Int32 × jh) :=
  (if ¬ x2 = 1 then
  (if ¬ x2 = 0 then
  f_X13_createNow_b58 x0 x1 x2 4 x1 x0 x2 x0 h
  else
  f_X13_createNow_b58 x0 x1 x2 2 x1 x0 x2 x0 h)
  else
  f_X13_createNow_b58 x0 x1 x2 3 x1 x0 x2 x0 h)
theorem o_f_X13_createNow_b36 {X : jx} {b0 : Nat × Nat} (x0 : Nat) (x1 : Int32) (x2 : Int32) (h : jh) : jv_O X M_X13_createNow b0 jeI 36 [some (.ref (x0)), some (.int (x1)), some (.int (x2)), none, none] [] h (f_X13_createNow_b36 x0 x1 x2 h) := by
  unfold f_X13_createNow_b36
  refine jv_aload_n (jv_dk t_X13_createNow (k := 21) rfl) rfl rfl (Or.inr ⟨_, rfl⟩) ?_
  refine jv_iload_n (jv_dk t_X13_createNow (k := 22) rfl) rfl rfl ?_
  refine jv_aload_n (jv_dk t_X13_createNow (k := 23) rfl) rfl rfl (Or.inr ⟨_, rfl⟩) ?_
  refine jv_iload_n (jv_dk t_X13_createNow (k := 24) rfl) rfl rfl ?_
  refine jv_iload_n (jv_dk t_X13_createNow (k := 25) rfl) rfl rfl ?_
  refine jv_iconst (v := 1) (jv_dk t_X13_createNow (k := 26) rfl) (by decide) ?_
  refine jv_icmp_ne (tgt := 49) (jv_dk t_X13_createNow (k := 27) rfl) rfl (fun c3 => ?_) (fun c3 => ?_)
  · refine jv_iload_n (jv_dk t_X13_createNow (k := 30) rfl) rfl rfl ?_
    refine jv_if_ne (tgt := 57) (jv_dk t_X13_createNow (k := 31) rfl) rfl (fun c4 => ?_) (fun c4 => ?_)
    · refine jv_iconst (v := 4) (jv_dk t_X13_createNow (k := 34) rfl) (by decide) ?_
      exact o_f_X13_createNow_b58 _ _ _ _ _ _ _ _ _ 
    · show jv_O _ _ _ _ 53 _ _ _ _
      refine jv_iconst (v := 2) (jv_dk t_X13_createNow (k := 32) rfl) (by decide) ?_
      refine jv_goto (tgt := 58) (jv_dk t_X13_createNow (k := 33) rfl) rfl ?_
      exact o_f_X13_createNow_b58 _ _ _ _ _ _ _ _ _ 
  · show jv_O _ _ _ _ 45 _ _ _ _
    refine jv_iconst (v := 3) (jv_dk t_X13_createNow (k := 28) rfl) (by decide) ?_
    refine jv_goto (tgt := 58) (jv_dk t_X13_createNow (k := 29) rfl) rfl ?_
    exact o_f_X13_createNow_b58 _ _ _ _ _ _ _ _ _ 
def f_X13_createNow_b15 (x0 : Nat) (x1 : Int32) (x2 : Int32) (h : jh) : Option (Int32 × jh) :=
  (if ¬ x2 = 0 then
  f_X13_createNow_b36 x0 x1 x2 h
  else
  cV h x0 11 (f_X13_of x0 x1 5 h) fun v50 h51 =>
  cV h51 x0 11 (f_X13_of x0 x1 2 h51) fun v52 h53 =>
  (if v50 = v52 then
  f_X13_createNow_b36 x0 x1 x2 h53
  else
  some ((-1), h53)))
theorem o_f_X13_createNow_b15 {X : jx} {b0 : Nat × Nat} (x0 : Nat) (x1 : Int32) (x2 : Int32) (h : jh) : jv_O X M_X13_createNow b0 jeI 15 [some (.ref (x0)), some (.int (x1)), some (.int (x2)), none, none] [] h (f_X13_createNow_b15 x0 x1 x2 h) := by
  unfold f_X13_createNow_b15
  refine jv_iload_n (jv_dk t_X13_createNow (k := 8) rfl) rfl rfl ?_
  refine jv_if_ne (tgt := 36) (jv_dk t_X13_createNow (k := 9) rfl) rfl (fun c2 => ?_) (fun c2 => ?_)
  · exact o_f_X13_createNow_b36 _ _ _ _ 
  · show jv_O _ _ _ _ 19 _ _ _ _
    refine jv_aload_n (jv_dk t_X13_createNow (k := 10) rfl) rfl rfl (Or.inr ⟨_, rfl⟩) ?_
    refine jv_iload_n (jv_dk t_X13_createNow (k := 11) rfl) rfl rfl ?_
    refine jv_iconst (v := 5) (jv_dk t_X13_createNow (k := 12) rfl) (by decide) ?_
    refine jv_callV (en' := jeI) (pv := jpI) (As := [.int (x1), .int (5)]) (S := []) (jv_dk t_X13_createNow (k := 13) rfl) (fun _ => rfl) (Or.inl lk_X13_205) me_X13_of mv_X13_of ⟨by decide, by decide⟩ rfl rfl rfl (Nat.le_of_ble_eq_true rfl) (P_X13_of X x0 x1 5 h) (fun v50 h51 => ?_)
    show jv_O X M_X13_createNow _ jeI 25 [some (.ref (x0)), some (.int (x1)), some (.int (x2)), none, none] [.int (v50)] h51 _
    refine jv_aload_n (jv_dk t_X13_createNow (k := 14) rfl) rfl rfl (Or.inr ⟨_, rfl⟩) ?_
    refine jv_iload_n (jv_dk t_X13_createNow (k := 15) rfl) rfl rfl ?_
    refine jv_iconst (v := 2) (jv_dk t_X13_createNow (k := 16) rfl) (by decide) ?_
    refine jv_callV (en' := jeI) (pv := jpI) (As := [.int (x1), .int (2)]) (S := [.int (v50)]) (jv_dk t_X13_createNow (k := 17) rfl) (fun _ => rfl) (Or.inl lk_X13_205) me_X13_of mv_X13_of ⟨by decide, by decide⟩ rfl rfl rfl (Nat.le_of_ble_eq_true rfl) (P_X13_of X x0 x1 2 h51) (fun v52 h53 => ?_)
    show jv_O X M_X13_createNow _ jeI 31 [some (.ref (x0)), some (.int (x1)), some (.int (x2)), none, none] [.int (v52), .int (v50)] h53 _
    refine jv_icmp_eq (tgt := 36) (jv_dk t_X13_createNow (k := 18) rfl) rfl (fun c54 => ?_) (fun c54 => ?_)
    · exact o_f_X13_createNow_b36 _ _ _ _ 
    · show jv_O _ _ _ _ 34 _ _ _ _
      refine jv_iconst (v := (-1)) (jv_dk t_X13_createNow (k := 19) rfl) (by decide) ?_
      exact jv_iret (ty := .int) (jv_dk t_X13_createNow (k := 20) rfl) rfl rfl rfl
def f_X13_createNow (a0 : Nat) (a1 : Int32) (a2 : Int32) (h : jh) : Option (Int32 × jh) :=
  (if a2 = 1 then
  f_X13_createNow_b15 a0 a1 a2 h
  else
  cV h a0 11 (f_X13_of a0 a1 7 h) fun v55 h56 =>
  (if v55 = 0 then
  some ((-1), h56)
  else
  f_X13_createNow_b15 a0 a1 a2 h56))
theorem P_X13_createNow (X : jx) (a0 : Nat) (a1 : Int32) (a2 : Int32) (h : jh) : jv_P X M_X13_createNow jeI [.ref (a0), .int (a1), .int (a2)] h (f_X13_createNow a0 a1 a2 h) := by
  refine jv_P.of (by decide) rfl (by simp [Value.category]) (Nat.le_of_ble_eq_true rfl) ?_
  show jv_O X M_X13_createNow (h.1, h.2.1) jeI 0 [some (.ref (a0)), some (.int (a1)), some (.int (a2)), none, none] [] h (f_X13_createNow a0 a1 a2 h)
  unfold f_X13_createNow
  refine jv_iload_n (jv_dk t_X13_createNow (k := 0) rfl) rfl rfl ?_
  refine jv_iconst (v := 1) (jv_dk t_X13_createNow (k := 1) rfl) (by decide) ?_
  refine jv_icmp_eq (tgt := 15) (jv_dk t_X13_createNow (k := 2) rfl) rfl (fun c1 => ?_) (fun c1 => ?_)
  · exact o_f_X13_createNow_b15 _ _ _ _ 
  · show jv_O _ _ _ _ 5 _ _ _ _
    refine jv_aload_n (jv_dk t_X13_createNow (k := 3) rfl) rfl rfl (Or.inr ⟨_, rfl⟩) ?_
    refine jv_iload_n (jv_dk t_X13_createNow (k := 4) rfl) rfl rfl ?_
    refine jv_bipush (v := 7) (jv_dk t_X13_createNow (k := 5) rfl) (by decide) ?_
    refine jv_callV (en' := jeI) (pv := jpI) (As := [.int (a1), .int (7)]) (S := []) (jv_dk t_X13_createNow (k := 6) rfl) (fun _ => rfl) (Or.inl lk_X13_205) me_X13_of mv_X13_of ⟨by decide, by decide⟩ rfl rfl rfl (Nat.le_of_ble_eq_true rfl) (P_X13_of X a0 a1 7 h) (fun v55 h56 => ?_)
    show jv_O X M_X13_createNow _ jeI 12 [some (.ref (a0)), some (.int (a1)), some (.int (a2)), none, none] [.int (v55)] h56 _
    refine jv_if_eq (tgt := 34) (jv_dk t_X13_createNow (k := 7) rfl) rfl (fun c57 => ?_) (fun c57 => ?_)
    · refine jv_iconst (v := (-1)) (jv_dk t_X13_createNow (k := 19) rfl) (by decide) ?_
      exact jv_iret (ty := .int) (jv_dk t_X13_createNow (k := 20) rfl) rfl rfl rfl
    · show jv_O _ _ _ _ 15 _ _ _ _
      exact o_f_X13_createNow_b15 _ _ _ _ 
def t0_X13_isSpace : List (Nat × Instr × Nat) := [(0, .iload_n 2, 1), (1, .iconst 0, 1), (2, .aload_n 0, 1), (3, .iload_n 1, 1), (4, .invokevirtual 208, 3), (7, .iconst 1, 1), (8, .isub, 1), (9, .invokestatic 169, 3), (12, .ireturn, 1)]
theorem t_X13_isSpace : jv_dec cX13_isSpace t0_X13_isSpace = true := by decide +kernel
def M_X13_isSpace : jm := (yX13_isSpace, cX13_isSpace, 3, (some .boolean), 1, 22, [])
def f_X13_isSpace (a0 : Nat) (a1 : Int32) (a2 : Int32) (h : jh) : Option (Int32 × jh) :=
  cV h a0 11 (f_X13_many a0 a1 h) fun v1 h2 =>
  bd (f_X13_isIn a2 0 (v1 - 1) h2) fun v3 h4 =>
  jz v3 h4
theorem P_X13_isSpace (X : jx) (a0 : Nat) (a1 : Int32) (a2 : Int32) (h : jh) : jv_P X M_X13_isSpace jeI [.ref (a0), .int (a1), .int (a2)] h (f_X13_isSpace a0 a1 a2 h) := by
  refine jv_P.of (by decide) rfl (by simp [Value.category]) (Nat.le_of_ble_eq_true rfl) ?_
  show jv_O X M_X13_isSpace (h.1, h.2.1) jeI 0 [some (.ref (a0)), some (.int (a1)), some (.int (a2))] [] h (f_X13_isSpace a0 a1 a2 h)
  unfold f_X13_isSpace
  refine jv_iload_n (jv_dk t_X13_isSpace (k := 0) rfl) rfl rfl ?_
  refine jv_iconst (v := 0) (jv_dk t_X13_isSpace (k := 1) rfl) (by decide) ?_
  refine jv_aload_n (jv_dk t_X13_isSpace (k := 2) rfl) rfl rfl (Or.inr ⟨_, rfl⟩) ?_
  refine jv_iload_n (jv_dk t_X13_isSpace (k := 3) rfl) rfl rfl ?_
  refine jv_callV (en' := jeI) (pv := jpI) (As := [.int (a1)]) (S := [.int (0), .int (a2)]) (jv_dk t_X13_isSpace (k := 4) rfl) (fun _ => rfl) (Or.inl lk_X13_208) me_X13_many mv_X13_many ⟨by decide, by decide⟩ rfl rfl rfl (Nat.le_of_ble_eq_true rfl) (P_X13_many X a0 a1 h) (fun v1 h2 => ?_)
  show jv_O X M_X13_isSpace _ jeI 7 [some (.ref (a0)), some (.int (a1)), some (.int (a2))] [.int (v1), .int (0), .int (a2)] h2 _
  refine jv_iconst (v := 1) (jv_dk t_X13_isSpace (k := 5) rfl) (by decide) ?_
  refine jv_isub (jv_dk t_X13_isSpace (k := 6) rfl) ?_
  refine jv_callS (en' := jeI) (pv := jpI) (As := [.int (a2), .int (0), .int (v1 - 1)]) (S := []) (jv_dk t_X13_isSpace (k := 7) rfl) (fun _ => rfl) (Or.inl lk_X13_169) me_X13_isIn ms_X13_isIn ⟨by decide, by decide⟩ rfl rfl (Nat.le_of_ble_eq_true rfl) (P_X13_isIn X a2 0 (v1 - 1) h2) (fun v3 h4 => ?_)
  show jv_O X M_X13_isSpace _ jeI 12 [some (.ref (a0)), some (.int (a1)), some (.int (a2))] [.int (v3)] h4 _
  unfold jz
  by_cases c5 : v3 &&& 1 = v3
  · rw [if_pos c5]; exact jv_iret (ty := .boolean) (jv_dk t_X13_isSpace (k := 8) rfl) rfl (jv_nb c5) rfl
  · rw [if_neg c5]; exact jv_none rfl
def t0_X13_rangeAt : List (Nat × Instr × Nat) := [(0, .iconst 1, 1), (1, .iload_n 1, 1), (2, .invokestatic 99, 3), (5, .iconst 4, 1), (6, .iadd, 1), (7, .iconst 3, 1), (8, .iload_n 2, 1), (9, .imul, 1), (10, .iadd, 1), (11, .ireturn, 1)]
theorem t_X13_rangeAt : jv_dec cX13_rangeAt t0_X13_rangeAt = true := by decide +kernel
def M_X13_rangeAt : jm := (yX13_rangeAt, cX13_rangeAt, 3, (some .int), 1, 21, [])
def f_X13_rangeAt (a0 : Nat) (a1 : Int32) (a2 : Int32) (h : jh) : Option (Int32 × jh) :=
  bd (f_X13_spaceAt 1 a1 h) fun v1 h2 =>
  some ((v1 + 4) + (3 * a2), h2)
theorem P_X13_rangeAt (X : jx) (a0 : Nat) (a1 : Int32) (a2 : Int32) (h : jh) : jv_P X M_X13_rangeAt jeI [.ref (a0), .int (a1), .int (a2)] h (f_X13_rangeAt a0 a1 a2 h) := by
  refine jv_P.of (by decide) rfl (by simp [Value.category]) (Nat.le_of_ble_eq_true rfl) ?_
  show jv_O X M_X13_rangeAt (h.1, h.2.1) jeI 0 [some (.ref (a0)), some (.int (a1)), some (.int (a2))] [] h (f_X13_rangeAt a0 a1 a2 h)
  unfold f_X13_rangeAt
  refine jv_iconst (v := 1) (jv_dk t_X13_rangeAt (k := 0) rfl) (by decide) ?_
  refine jv_iload_n (jv_dk t_X13_rangeAt (k := 1) rfl) rfl rfl ?_
  refine jv_callS (en' := jeI) (pv := jpI) (As := [.int (1), .int (a1)]) (S := []) (jv_dk t_X13_rangeAt (k := 2) rfl) (fun _ => rfl) (Or.inl lk_X13_99) me_X13_spaceAt ms_X13_spaceAt ⟨by decide, by decide⟩ rfl rfl (Nat.le_of_ble_eq_true rfl) (P_X13_spaceAt X 1 a1 h) (fun v1 h2 => ?_)
  show jv_O X M_X13_rangeAt _ jeI 5 [some (.ref (a0)), some (.int (a1)), some (.int (a2))] [.int (v1)] h2 _
  refine jv_iconst (v := 4) (jv_dk t_X13_rangeAt (k := 3) rfl) (by decide) ?_
  refine jv_iadd (jv_dk t_X13_rangeAt (k := 4) rfl) ?_
  refine jv_iconst (v := 3) (jv_dk t_X13_rangeAt (k := 5) rfl) (by decide) ?_
  refine jv_iload_n (jv_dk t_X13_rangeAt (k := 6) rfl) rfl rfl ?_
  refine jv_imul (jv_dk t_X13_rangeAt (k := 7) rfl) ?_
  refine jv_iadd (jv_dk t_X13_rangeAt (k := 8) rfl) ?_
  exact jv_iret (ty := .int) (jv_dk t_X13_rangeAt (k := 9) rfl) rfl rfl rfl
def t0_X13_areApart : List (Nat × Instr × Nat) := [(0, .iload_n 0, 1), (1, .iload_n 2, 1), (2, .iadd, 1), (3, .iload_n 1, 1), (4, .if_icmp .le 10, 3), (7, .iload_n 1, 1), (8, .iload_n 3, 1), (9, .iadd, 1), (10, .iload_n 0, 1), (11, .if_icmp .gt 7, 3), (14, .iconst 1, 1), (15, .goto 4, 3), (18, .iconst 0, 1), (19, .ireturn, 1)]
theorem t_X13_areApart : jv_dec cX13_areApart t0_X13_areApart = true := by decide +kernel
def M_X13_areApart : jm := (yX13_areApart, cX13_areApart, 4, (some .boolean), 0, 0, [])
def f_X13_areApart (a0 : Int32) (a1 : Int32) (a2 : Int32) (a3 : Int32) (h : jh) : Option (Int32 × jh) :=
  (if (a0 + a2) ≤ a1 then
  some (1, h)
  else
  (if a0 < (a1 + a3) then
  some (0, h)
  else
  some (1, h)))
theorem P_X13_areApart (X : jx) (a0 : Int32) (a1 : Int32) (a2 : Int32) (a3 : Int32) (h : jh) : jv_P X M_X13_areApart jeI [.int (a0), .int (a1), .int (a2), .int (a3)] h (f_X13_areApart a0 a1 a2 a3 h) := by
  refine jv_P.of (by decide) rfl (by simp [Value.category]) (Nat.le_of_ble_eq_true rfl) ?_
  show jv_O X M_X13_areApart (h.1, h.2.1) jeI 0 [some (.int (a0)), some (.int (a1)), some (.int (a2)), some (.int (a3))] [] h (f_X13_areApart a0 a1 a2 a3 h)
  unfold f_X13_areApart
  refine jv_iload_n (jv_dk t_X13_areApart (k := 0) rfl) rfl rfl ?_
  refine jv_iload_n (jv_dk t_X13_areApart (k := 1) rfl) rfl rfl ?_
  refine jv_iadd (jv_dk t_X13_areApart (k := 2) rfl) ?_
  refine jv_iload_n (jv_dk t_X13_areApart (k := 3) rfl) rfl rfl ?_
  refine jv_icmp_le (tgt := 14) (jv_dk t_X13_areApart (k := 4) rfl) rfl (fun c1 => ?_) (fun c1 => ?_)
  · refine jv_iconst (v := 1) (jv_dk t_X13_areApart (k := 10) rfl) (by decide) ?_
    refine jv_goto (tgt := 19) (jv_dk t_X13_areApart (k := 11) rfl) rfl ?_
    exact jv_iret (ty := .boolean) (jv_dk t_X13_areApart (k := 13) rfl) rfl rfl rfl
  · show jv_O _ _ _ _ 7 _ _ _ _
    refine jv_iload_n (jv_dk t_X13_areApart (k := 5) rfl) rfl rfl ?_
    refine jv_iload_n (jv_dk t_X13_areApart (k := 6) rfl) rfl rfl ?_
    refine jv_iadd (jv_dk t_X13_areApart (k := 7) rfl) ?_
    refine jv_iload_n (jv_dk t_X13_areApart (k := 8) rfl) rfl rfl ?_
    refine jv_icmp_gt (tgt := 18) (jv_dk t_X13_areApart (k := 9) rfl) rfl (fun c2 => ?_) (fun c2 => ?_)
    · refine jv_iconst (v := 0) (jv_dk t_X13_areApart (k := 12) rfl) (by decide) ?_
      exact jv_iret (ty := .boolean) (jv_dk t_X13_areApart (k := 13) rfl) rfl rfl rfl
    · show jv_O _ _ _ _ 14 _ _ _ _
      refine jv_iconst (v := 1) (jv_dk t_X13_areApart (k := 10) rfl) (by decide) ?_
      refine jv_goto (tgt := 19) (jv_dk t_X13_areApart (k := 11) rfl) rfl ?_
      exact jv_iret (ty := .boolean) (jv_dk t_X13_areApart (k := 13) rfl) rfl rfl rfl
def t0_X13_oneOut : List (Nat × Instr × Nat) := [(0, .iconst 0, 1), (1, .istore_n 3, 1), (2, .iload_n 3, 1), (3, .aload_n 0, 1), (4, .iconst 1, 1), (5, .iload_n 1, 1), (6, .iconst 3, 1), (7, .invokevirtual 217, 3), (10, .if_icmp .ge 70, 3), (13, .aload_n 0, 1), (14, .iload_n 1, 1), (15, .iload_n 3, 1), (16, .invokevirtual 224, 3), (19, .istore 4, 2), (21, .iload_n 2, 1), (22, .aload_n 0, 1), (23, .getfield 37, 3), (26, .iload 4, 2), (28, .iaload, 1), (29, .aload_n 0, 1), (30, .getfield 37, 3), (33, .iload 4, 2), (35, .iaload, 1), (36, .aload_n 0, 1), (37, .getfield 37, 3), (40, .iload 4, 2), (42, .iconst 2, 1), (43, .iadd, 1), (44, .iaload, 1), (45, .iadd, 1), (46, .iconst 1, 1), (47, .isub, 1), (48, .invokestatic 169, 3), (51, .ifCond .eq 23, 3), (54, .aload_n 0, 1), (55, .getfield 37, 3), (58, .iload 4, 2), (60, .iconst 1, 1), (61, .iadd, 1), (62, .iaload, 1), (63, .iload_n 2, 1), (64, .iadd, 1), (65, .aload_n 0, 1), (66, .getfield 37, 3), (69, .iload 4, 2), (71, .iaload, 1), (72, .isub, 1), (73, .ireturn, 1), (74, .iinc 3 1, 3), (77, .goto (-75), 3), (80, .ldc 227, 2), (82, .ireturn, 1)]
theorem t_X13_oneOut : jv_dec cX13_oneOut t0_X13_oneOut = true := by decide +kernel
def M_X13_oneOut : jm := (yX13_oneOut, cX13_oneOut, 5, (some .int), 2, 44, [])
theorem lk_X13_224 : Cond.methodLink RX13 224 M_X13_rangeAt.1 ∈ lw_tbl := (jv_at 1612 (by decide +kernel))
set_option maxRecDepth 20000 in
theorem me_X13_rangeAt : jv_me M_X13_rangeAt 2 := ⟨(jv_in7 (List.mem_of_getElem? (i := 15) rfl)), (jv_at 172 (by decide +kernel)), ⟨by decide, by decide⟩, by decide +kernel⟩
theorem mv_X13_rangeAt : jv_mv M_X13_rangeAt := ⟨(jv_at 1614 (by decide +kernel)), (jv_at 121 (by decide +kernel))⟩
theorem cn_X13_227 : Cond.constant RX13 227 65534 ∈ lw_tbl := (jv_at 1623 (by decide +kernel))
def f_X13_oneOut_h2 (K2 : jh → Option (Int32 × jh)) (R2 : Nat → Int32 → Int32 → Int32 → jh → Option (Int32 × jh)) (x0 : Nat) (x1 : Int32) (x2 : Int32) (x3 : Int32) (h : jh) : Option (Int32 × jh) :=
  cV h x0 11 (f_X13_spaceOf x0 1 x1 3 h) fun v1 h2 =>
  (if v1 ≤ x3 then
  K2  h2
  else
  cV h2 x0 11 (f_X13_rangeAt x0 x1 x3 h2) fun v4 h5 =>
  gR h5 x0 11 2 fun v6 =>
  aI h5 v6 v4 fun v7 =>
  gR h5 x0 11 2 fun v8 =>
  aI h5 v8 v4 fun v9 =>
  gR h5 x0 11 2 fun v10 =>
  aI h5 v10 (v4 + 2) fun v11 =>
  bd (f_X13_isIn x2 v7 ((v9 + v11) - 1) h5) fun v12 h13 =>
  (if v12 = 0 then
  R2 x0 x1 x2 (x3 + 1) h13
  else
  gR h13 x0 11 2 fun v15 =>
  aI h13 v15 (v4 + 1) fun v16 =>
  gR h13 x0 11 2 fun v17 =>
  aI h13 v17 v4 fun v18 =>
  some ((v16 + x2) - v18, h13)))
theorem o_f_X13_oneOut_h2 {X : jx} {b0 : Nat × Nat} {K2 : jh → Option (Int32 × jh)} (hK2 : ∀  (h : jh), jv_O X M_X13_oneOut b0 jeI 80 [none, none, none, none, none] [] h (K2  h)) : ∀ (x0 : Nat) (x1 : Int32) (x2 : Int32) (x3 : Int32) (h : jh), jv_O X M_X13_oneOut b0 jeI 2 [some (.ref (x0)), some (.int (x1)), some (.int (x2)), some (.int (x3)), none] [] h (jlp4 (f_X13_oneOut_h2 K2) jfu x0 x1 x2 x3 h) := by
  refine jlp4_ok (P := fun x0 x1 x2 x3 h o => jv_O X M_X13_oneOut b0 jeI 2 [some (.ref (x0)), some (.int (x1)), some (.int (x2)), some (.int (x3)), none] [] h o) (fun R2 hR2 => ?_) (fun _ _ _ _ _  => jv_none rfl) jfu
  intro x0 x1 x2 x3 h
  unfold f_X13_oneOut_h2
  refine jv_iload_n (jv_dk t_X13_oneOut (k := 2) rfl) rfl rfl ?_
  refine jv_aload_n (jv_dk t_X13_oneOut (k := 3) rfl) rfl rfl (Or.inr ⟨_, rfl⟩) ?_
  refine jv_iconst (v := 1) (jv_dk t_X13_oneOut (k := 4) rfl) (by decide) ?_
  refine jv_iload_n (jv_dk t_X13_oneOut (k := 5) rfl) rfl rfl ?_
  refine jv_iconst (v := 3) (jv_dk t_X13_oneOut (k := 6) rfl) (by decide) ?_
  refine jv_callV (en' := jeI) (pv := jpI) (As := [.int (1), .int (x1), .int (3)]) (S := [.int (x3)]) (jv_dk t_X13_oneOut (k := 7) rfl) (fun _ => rfl) (Or.inl lk_X13_217) me_X13_spaceOf mv_X13_spaceOf ⟨by decide, by decide⟩ rfl rfl rfl (Nat.le_of_ble_eq_true rfl) (P_X13_spaceOf X x0 1 x1 3 h) (fun v1 h2 => ?_)
  show jv_O X M_X13_oneOut _ jeI 10 [some (.ref (x0)), some (.int (x1)), some (.int (x2)), some (.int (x3)), none] [.int (v1), .int (x3)] h2 _
  refine jv_icmp_ge (tgt := 80) (jv_dk t_X13_oneOut (k := 8) rfl) rfl (fun c3 => ?_) (fun c3 => ?_)
  · refine jv_le_row (jv_le_n (jv_le_n (jv_le_n (jv_le_n (jv_le_n (jv_le_nil)))))) ?_
    exact hK2 _ 
  · show jv_O _ _ _ _ 13 _ _ _ _
    refine jv_aload_n (jv_dk t_X13_oneOut (k := 9) rfl) rfl rfl (Or.inr ⟨_, rfl⟩) ?_
    refine jv_iload_n (jv_dk t_X13_oneOut (k := 10) rfl) rfl rfl ?_
    refine jv_iload_n (jv_dk t_X13_oneOut (k := 11) rfl) rfl rfl ?_
    refine jv_callV (en' := jeI) (pv := jpI) (As := [.int (x1), .int (x3)]) (S := []) (jv_dk t_X13_oneOut (k := 12) rfl) (fun _ => rfl) (Or.inl lk_X13_224) me_X13_rangeAt mv_X13_rangeAt ⟨by decide, by decide⟩ rfl rfl rfl (Nat.le_of_ble_eq_true rfl) (P_X13_rangeAt X x0 x1 x3 h2) (fun v4 h5 => ?_)
    show jv_O X M_X13_oneOut _ jeI 19 [some (.ref (x0)), some (.int (x1)), some (.int (x2)), some (.int (x3)), none] [.int (v4)] h5 _
    refine jv_istore (L' := [some (.ref (x0)), some (.int (x1)), some (.int (x2)), some (.int (x3)), some (.int (v4))]) (jv_dk t_X13_oneOut (k := 13) rfl) (Nat.le_of_ble_eq_true rfl) rfl ?_
    refine jv_iload_n (jv_dk t_X13_oneOut (k := 14) rfl) rfl rfl ?_
    refine jv_aload_n (jv_dk t_X13_oneOut (k := 15) rfl) rfl rfl (Or.inr ⟨_, rfl⟩) ?_
    refine jv_gR (jv_dk t_X13_oneOut (k := 16) rfl) fl_X13_37 (fun v6 => ?_)
    refine jv_iload (jv_dk t_X13_oneOut (k := 17) rfl) rfl ?_
    refine jv_iaload (jv_dk t_X13_oneOut (k := 18) rfl) (fun v7 => ?_)
    refine jv_aload_n (jv_dk t_X13_oneOut (k := 19) rfl) rfl rfl (Or.inr ⟨_, rfl⟩) ?_
    refine jv_gR (jv_dk t_X13_oneOut (k := 20) rfl) fl_X13_37 (fun v8 => ?_)
    refine jv_iload (jv_dk t_X13_oneOut (k := 21) rfl) rfl ?_
    refine jv_iaload (jv_dk t_X13_oneOut (k := 22) rfl) (fun v9 => ?_)
    refine jv_aload_n (jv_dk t_X13_oneOut (k := 23) rfl) rfl rfl (Or.inr ⟨_, rfl⟩) ?_
    refine jv_gR (jv_dk t_X13_oneOut (k := 24) rfl) fl_X13_37 (fun v10 => ?_)
    refine jv_iload (jv_dk t_X13_oneOut (k := 25) rfl) rfl ?_
    refine jv_iconst (v := 2) (jv_dk t_X13_oneOut (k := 26) rfl) (by decide) ?_
    refine jv_iadd (jv_dk t_X13_oneOut (k := 27) rfl) ?_
    refine jv_iaload (jv_dk t_X13_oneOut (k := 28) rfl) (fun v11 => ?_)
    refine jv_iadd (jv_dk t_X13_oneOut (k := 29) rfl) ?_
    refine jv_iconst (v := 1) (jv_dk t_X13_oneOut (k := 30) rfl) (by decide) ?_
    refine jv_isub (jv_dk t_X13_oneOut (k := 31) rfl) ?_
    refine jv_callS (en' := jeI) (pv := jpI) (As := [.int (x2), .int (v7), .int ((v9 + v11) - 1)]) (S := []) (jv_dk t_X13_oneOut (k := 32) rfl) (fun _ => rfl) (Or.inl lk_X13_169) me_X13_isIn ms_X13_isIn ⟨by decide, by decide⟩ rfl rfl (Nat.le_of_ble_eq_true rfl) (P_X13_isIn X x2 v7 ((v9 + v11) - 1) h5) (fun v12 h13 => ?_)
    show jv_O X M_X13_oneOut _ jeI 51 [some (.ref (x0)), some (.int (x1)), some (.int (x2)), some (.int (x3)), some (.int (v4))] [.int (v12)] h13 _
    refine jv_if_eq (tgt := 74) (jv_dk t_X13_oneOut (k := 33) rfl) rfl (fun c14 => ?_) (fun c14 => ?_)
    · refine jv_iinc (v := 1) (L' := [some (.ref (x0)), some (.int (x1)), some (.int (x2)), some (.int (x3 + 1)), some (.int (v4))]) (jv_dk t_X13_oneOut (k := 48) rfl) rfl (by decide) rfl ?_
      refine jv_goto (tgt := 2) (jv_dk t_X13_oneOut (k := 49) rfl) rfl ?_
      refine jv_le_row (jv_le_s (jv_le_s (jv_le_s (jv_le_s (jv_le_n (jv_le_nil)))))) ?_
      exact hR2 _ _ _ _ _ 
    · show jv_O _ _ _ _ 54 _ _ _ _
      refine jv_aload_n (jv_dk t_X13_oneOut (k := 34) rfl) rfl rfl (Or.inr ⟨_, rfl⟩) ?_
      refine jv_gR (jv_dk t_X13_oneOut (k := 35) rfl) fl_X13_37 (fun v15 => ?_)
      refine jv_iload (jv_dk t_X13_oneOut (k := 36) rfl) rfl ?_
      refine jv_iconst (v := 1) (jv_dk t_X13_oneOut (k := 37) rfl) (by decide) ?_
      refine jv_iadd (jv_dk t_X13_oneOut (k := 38) rfl) ?_
      refine jv_iaload (jv_dk t_X13_oneOut (k := 39) rfl) (fun v16 => ?_)
      refine jv_iload_n (jv_dk t_X13_oneOut (k := 40) rfl) rfl rfl ?_
      refine jv_iadd (jv_dk t_X13_oneOut (k := 41) rfl) ?_
      refine jv_aload_n (jv_dk t_X13_oneOut (k := 42) rfl) rfl rfl (Or.inr ⟨_, rfl⟩) ?_
      refine jv_gR (jv_dk t_X13_oneOut (k := 43) rfl) fl_X13_37 (fun v17 => ?_)
      refine jv_iload (jv_dk t_X13_oneOut (k := 44) rfl) rfl ?_
      refine jv_iaload (jv_dk t_X13_oneOut (k := 45) rfl) (fun v18 => ?_)
      refine jv_isub (jv_dk t_X13_oneOut (k := 46) rfl) ?_
      exact jv_iret (ty := .int) (jv_dk t_X13_oneOut (k := 47) rfl) rfl rfl rfl
def f_X13_oneOut (a0 : Nat) (a1 : Int32) (a2 : Int32) (h : jh) : Option (Int32 × jh) :=
  jlp4 (f_X13_oneOut_h2 (fun  h19 =>
  some (65534, h19))) jfu a0 a1 a2 0 h
theorem P_X13_oneOut (X : jx) (a0 : Nat) (a1 : Int32) (a2 : Int32) (h : jh) : jv_P X M_X13_oneOut jeI [.ref (a0), .int (a1), .int (a2)] h (f_X13_oneOut a0 a1 a2 h) := by
  refine jv_P.of (by decide) rfl (by simp [Value.category]) (Nat.le_of_ble_eq_true rfl) ?_
  show jv_O X M_X13_oneOut (h.1, h.2.1) jeI 0 [some (.ref (a0)), some (.int (a1)), some (.int (a2)), none, none] [] h (f_X13_oneOut a0 a1 a2 h)
  unfold f_X13_oneOut
  refine jv_iconst (v := 0) (jv_dk t_X13_oneOut (k := 0) rfl) (by decide) ?_
  refine jv_istore_n (L' := [some (.ref (a0)), some (.int (a1)), some (.int (a2)), some (.int (0)), none]) (jv_dk t_X13_oneOut (k := 1) rfl) rfl (Nat.le_of_ble_eq_true rfl) rfl ?_
  refine o_f_X13_oneOut_h2 (fun  h19 => ?_) _ _ _ _ _ 
  show jv_O X M_X13_oneOut _ jeI 80 [none, none, none, none, none] [] h19 _
  refine jv_ldc (jv_dk t_X13_oneOut (k := 50) rfl) cn_X13_227 ?_
  exact jv_iret (ty := .int) (jv_dk t_X13_oneOut (k := 51) rfl) rfl rfl rfl
def t0_X13_toRoot : List (Nat × Instr × Nat) := [(0, .iload_n 2, 1), (1, .istore_n 3, 1), (2, .iload_n 1, 1), (3, .istore 4, 2), (5, .iload 4, 2), (7, .ifCond .le 30, 3), (10, .iload_n 3, 1), (11, .ldc 227, 2), (13, .if_icmp .eq 24, 3), (16, .aload_n 0, 1), (17, .iload 4, 2), (19, .iload_n 3, 1), (20, .invokevirtual 228, 3), (23, .istore_n 3, 1), (24, .aload_n 0, 1), (25, .iconst 1, 1), (26, .iload 4, 2), (28, .iconst 0, 1), (29, .invokevirtual 217, 3), (32, .istore 4, 2), (34, .goto (-29), 3), (37, .iload_n 3, 1), (38, .ireturn, 1)]
theorem t_X13_toRoot : jv_dec cX13_toRoot t0_X13_toRoot = true := by decide +kernel
def M_X13_toRoot : jm := (yX13_toRoot, cX13_toRoot, 5, (some .int), 3, 68, [])
theorem lk_X13_228 : Cond.methodLink RX13 228 M_X13_oneOut.1 ∈ lw_tbl := (jv_at 1624 (by decide +kernel))
set_option maxRecDepth 20000 in
theorem me_X13_oneOut : jv_me M_X13_oneOut 2 := ⟨(jv_in7 (List.mem_of_getElem? (i := 27) rfl)), (jv_at 172 (by decide +kernel)), ⟨by decide, by decide⟩, by decide +kernel⟩
theorem mv_X13_oneOut : jv_mv M_X13_oneOut := ⟨(jv_at 1626 (by decide +kernel)), (jv_at 123 (by decide +kernel))⟩
def f_X13_toRoot_h5 (K5 : Int32 → jh → Option (Int32 × jh)) (R5 : Nat → Int32 → Int32 → jh → Option (Int32 × jh)) (x0 : Nat) (x3 : Int32) (x4 : Int32) (h : jh) : Option (Int32 × jh) :=
  (if x4 ≤ 0 then
  K5 x3 h
  else
  (if x3 = 65534 then
  K5 x3 h
  else
  cV h x0 11 (f_X13_oneOut x0 x4 x3 h) fun v3 h4 =>
  cV h4 x0 11 (f_X13_spaceOf x0 1 x4 0 h4) fun v5 h6 =>
  R5 x0 v3 v5 h6))
theorem o_f_X13_toRoot_h5 {X : jx} {b0 : Nat × Nat} {K5 : Int32 → jh → Option (Int32 × jh)} (hK5 : ∀ (x3 : Int32) (h : jh), jv_O X M_X13_toRoot b0 jeI 37 [none, none, none, some (.int (x3)), none] [] h (K5 x3 h)) : ∀ (x0 : Nat) (x3 : Int32) (x4 : Int32) (h : jh), jv_O X M_X13_toRoot b0 jeI 5 [some (.ref (x0)), none, none, some (.int (x3)), some (.int (x4))] [] h (jlp3 (f_X13_toRoot_h5 K5) jfu x0 x3 x4 h) := by
  refine jlp3_ok (P := fun x0 x3 x4 h o => jv_O X M_X13_toRoot b0 jeI 5 [some (.ref (x0)), none, none, some (.int (x3)), some (.int (x4))] [] h o) (fun R5 hR5 => ?_) (fun _ _ _ _  => jv_none rfl) jfu
  intro x0 x3 x4 h
  unfold f_X13_toRoot_h5
  refine jv_iload (jv_dk t_X13_toRoot (k := 4) rfl) rfl ?_
  refine jv_if_le (tgt := 37) (jv_dk t_X13_toRoot (k := 5) rfl) rfl (fun c1 => ?_) (fun c1 => ?_)
  · refine jv_le_row (jv_le_n (jv_le_n (jv_le_n (jv_le_s (jv_le_n (jv_le_nil)))))) ?_
    exact hK5 _ _ 
  · show jv_O _ _ _ _ 10 _ _ _ _
    refine jv_iload_n (jv_dk t_X13_toRoot (k := 6) rfl) rfl rfl ?_
    refine jv_ldc (jv_dk t_X13_toRoot (k := 7) rfl) cn_X13_227 ?_
    refine jv_icmp_eq (tgt := 37) (jv_dk t_X13_toRoot (k := 8) rfl) rfl (fun c2 => ?_) (fun c2 => ?_)
    · refine jv_le_row (jv_le_n (jv_le_n (jv_le_n (jv_le_s (jv_le_n (jv_le_nil)))))) ?_
      exact hK5 _ _ 
    · show jv_O _ _ _ _ 16 _ _ _ _
      refine jv_aload_n (jv_dk t_X13_toRoot (k := 9) rfl) rfl rfl (Or.inr ⟨_, rfl⟩) ?_
      refine jv_iload (jv_dk t_X13_toRoot (k := 10) rfl) rfl ?_
      refine jv_iload_n (jv_dk t_X13_toRoot (k := 11) rfl) rfl rfl ?_
      refine jv_callV (en' := jeI) (pv := jpI) (As := [.int (x4), .int (x3)]) (S := []) (jv_dk t_X13_toRoot (k := 12) rfl) (fun _ => rfl) (Or.inl lk_X13_228) me_X13_oneOut mv_X13_oneOut ⟨by decide, by decide⟩ rfl rfl rfl (Nat.le_of_ble_eq_true rfl) (P_X13_oneOut X x0 x4 x3 h) (fun v3 h4 => ?_)
      show jv_O X M_X13_toRoot _ jeI 23 [some (.ref (x0)), none, none, some (.int (x3)), some (.int (x4))] [.int (v3)] h4 _
      refine jv_istore_n (L' := [some (.ref (x0)), none, none, some (.int (v3)), some (.int (x4))]) (jv_dk t_X13_toRoot (k := 13) rfl) rfl (Nat.le_of_ble_eq_true rfl) rfl ?_
      refine jv_aload_n (jv_dk t_X13_toRoot (k := 14) rfl) rfl rfl (Or.inr ⟨_, rfl⟩) ?_
      refine jv_iconst (v := 1) (jv_dk t_X13_toRoot (k := 15) rfl) (by decide) ?_
      refine jv_iload (jv_dk t_X13_toRoot (k := 16) rfl) rfl ?_
      refine jv_iconst (v := 0) (jv_dk t_X13_toRoot (k := 17) rfl) (by decide) ?_
      refine jv_callV (en' := jeI) (pv := jpI) (As := [.int (1), .int (x4), .int (0)]) (S := []) (jv_dk t_X13_toRoot (k := 18) rfl) (fun _ => rfl) (Or.inl lk_X13_217) me_X13_spaceOf mv_X13_spaceOf ⟨by decide, by decide⟩ rfl rfl rfl (Nat.le_of_ble_eq_true rfl) (P_X13_spaceOf X x0 1 x4 0 h4) (fun v5 h6 => ?_)
      show jv_O X M_X13_toRoot _ jeI 32 [some (.ref (x0)), none, none, some (.int (v3)), some (.int (x4))] [.int (v5)] h6 _
      refine jv_istore (L' := [some (.ref (x0)), none, none, some (.int (v3)), some (.int (v5))]) (jv_dk t_X13_toRoot (k := 19) rfl) (Nat.le_of_ble_eq_true rfl) rfl ?_
      refine jv_goto (tgt := 5) (jv_dk t_X13_toRoot (k := 20) rfl) rfl ?_
      exact hR5 _ _ _ _ 
def f_X13_toRoot (a0 : Nat) (a1 : Int32) (a2 : Int32) (h : jh) : Option (Int32 × jh) :=
  jlp3 (f_X13_toRoot_h5 (fun y8 h7 =>
  some (y8, h7))) jfu a0 a2 a1 h
theorem P_X13_toRoot (X : jx) (a0 : Nat) (a1 : Int32) (a2 : Int32) (h : jh) : jv_P X M_X13_toRoot jeI [.ref (a0), .int (a1), .int (a2)] h (f_X13_toRoot a0 a1 a2 h) := by
  refine jv_P.of (by decide) rfl (by simp [Value.category]) (Nat.le_of_ble_eq_true rfl) ?_
  show jv_O X M_X13_toRoot (h.1, h.2.1) jeI 0 [some (.ref (a0)), some (.int (a1)), some (.int (a2)), none, none] [] h (f_X13_toRoot a0 a1 a2 h)
  unfold f_X13_toRoot
  refine jv_iload_n (jv_dk t_X13_toRoot (k := 0) rfl) rfl rfl ?_
  refine jv_istore_n (L' := [some (.ref (a0)), some (.int (a1)), some (.int (a2)), some (.int (a2)), none]) (jv_dk t_X13_toRoot (k := 1) rfl) rfl (Nat.le_of_ble_eq_true rfl) rfl ?_
  refine jv_iload_n (jv_dk t_X13_toRoot (k := 2) rfl) rfl rfl ?_
  refine jv_istore (L' := [some (.ref (a0)), some (.int (a1)), some (.int (a2)), some (.int (a2)), some (.int (a1))]) (jv_dk t_X13_toRoot (k := 3) rfl) (Nat.le_of_ble_eq_true rfl) rfl ?_
  refine jv_le_row (jv_le_s (jv_le_n (jv_le_n (jv_le_s (jv_le_s (jv_le_nil)))))) ?_
  refine o_f_X13_toRoot_h5 (fun y8 h7 => ?_) _ _ _ _ 
  show jv_O X M_X13_toRoot _ jeI 37 [none, none, none, some (.int (y8)), none] [] h7 _
  refine jv_iload_n (jv_dk t_X13_toRoot (k := 21) rfl) rfl rfl ?_
  exact jv_iret (ty := .int) (jv_dk t_X13_toRoot (k := 22) rfl) rfl rfl rfl
def t0_X13_oneIn : List (Nat × Instr × Nat) := [(0, .iconst 0, 1), (1, .istore_n 3, 1), (2, .iload_n 3, 1), (3, .aload_n 0, 1), (4, .iconst 1, 1), (5, .iload_n 1, 1), (6, .iconst 3, 1), (7, .invokevirtual 217, 3), (10, .if_icmp .ge 74, 3), (13, .aload_n 0, 1), (14, .iload_n 1, 1), (15, .iload_n 3, 1), (16, .invokevirtual 224, 3), (19, .istore 4, 2), (21, .iload_n 2, 1), (22, .aload_n 0, 1), (23, .getfield 37, 3), (26, .iload 4, 2), (28, .iconst 1, 1), (29, .iadd, 1), (30, .iaload, 1), (31, .aload_n 0, 1), (32, .getfield 37, 3), (35, .iload 4, 2), (37, .iconst 1, 1), (38, .iadd, 1), (39, .iaload, 1), (40, .aload_n 0, 1), (41, .getfield 37, 3), (44, .iload 4, 2), (46, .iconst 2, 1), (47, .iadd, 1), (48, .iaload, 1), (49, .iadd, 1), (50, .iconst 1, 1), (51, .isub, 1), (52, .invokestatic 169, 3), (55, .ifCond .eq 23, 3), (58, .aload_n 0, 1), (59, .getfield 37, 3), (62, .iload 4, 2), (64, .iaload, 1), (65, .iload_n 2, 1), (66, .iadd, 1), (67, .aload_n 0, 1), (68, .getfield 37, 3), (71, .iload 4, 2), (73, .iconst 1, 1), (74, .iadd, 1), (75, .iaload, 1), (76, .isub, 1), (77, .ireturn, 1), (78, .iinc 3 1, 3), (81, .goto (-79), 3), (84, .ldc 227, 2), (86, .ireturn, 1)]
theorem t_X13_oneIn : jv_dec cX13_oneIn t0_X13_oneIn = true := by decide +kernel
def M_X13_oneIn : jm := (yX13_oneIn, cX13_oneIn, 5, (some .int), 2, 44, [])
def f_X13_oneIn_h2 (K2 : jh → Option (Int32 × jh)) (R2 : Nat → Int32 → Int32 → Int32 → jh → Option (Int32 × jh)) (x0 : Nat) (x1 : Int32) (x2 : Int32) (x3 : Int32) (h : jh) : Option (Int32 × jh) :=
  cV h x0 11 (f_X13_spaceOf x0 1 x1 3 h) fun v1 h2 =>
  (if v1 ≤ x3 then
  K2  h2
  else
  cV h2 x0 11 (f_X13_rangeAt x0 x1 x3 h2) fun v4 h5 =>
  gR h5 x0 11 2 fun v6 =>
  aI h5 v6 (v4 + 1) fun v7 =>
  gR h5 x0 11 2 fun v8 =>
  aI h5 v8 (v4 + 1) fun v9 =>
  gR h5 x0 11 2 fun v10 =>
  aI h5 v10 (v4 + 2) fun v11 =>
  bd (f_X13_isIn x2 v7 ((v9 + v11) - 1) h5) fun v12 h13 =>
  (if v12 = 0 then
  R2 x0 x1 x2 (x3 + 1) h13
  else
  gR h13 x0 11 2 fun v15 =>
  aI h13 v15 v4 fun v16 =>
  gR h13 x0 11 2 fun v17 =>
  aI h13 v17 (v4 + 1) fun v18 =>
  some ((v16 + x2) - v18, h13)))
theorem o_f_X13_oneIn_h2 {X : jx} {b0 : Nat × Nat} {K2 : jh → Option (Int32 × jh)} (hK2 : ∀  (h : jh), jv_O X M_X13_oneIn b0 jeI 84 [none, none, none, none, none] [] h (K2  h)) : ∀ (x0 : Nat) (x1 : Int32) (x2 : Int32) (x3 : Int32) (h : jh), jv_O X M_X13_oneIn b0 jeI 2 [some (.ref (x0)), some (.int (x1)), some (.int (x2)), some (.int (x3)), none] [] h (jlp4 (f_X13_oneIn_h2 K2) jfu x0 x1 x2 x3 h) := by
  refine jlp4_ok (P := fun x0 x1 x2 x3 h o => jv_O X M_X13_oneIn b0 jeI 2 [some (.ref (x0)), some (.int (x1)), some (.int (x2)), some (.int (x3)), none] [] h o) (fun R2 hR2 => ?_) (fun _ _ _ _ _  => jv_none rfl) jfu
  intro x0 x1 x2 x3 h
  unfold f_X13_oneIn_h2
  refine jv_iload_n (jv_dk t_X13_oneIn (k := 2) rfl) rfl rfl ?_
  refine jv_aload_n (jv_dk t_X13_oneIn (k := 3) rfl) rfl rfl (Or.inr ⟨_, rfl⟩) ?_
  refine jv_iconst (v := 1) (jv_dk t_X13_oneIn (k := 4) rfl) (by decide) ?_
  refine jv_iload_n (jv_dk t_X13_oneIn (k := 5) rfl) rfl rfl ?_
  refine jv_iconst (v := 3) (jv_dk t_X13_oneIn (k := 6) rfl) (by decide) ?_
  refine jv_callV (en' := jeI) (pv := jpI) (As := [.int (1), .int (x1), .int (3)]) (S := [.int (x3)]) (jv_dk t_X13_oneIn (k := 7) rfl) (fun _ => rfl) (Or.inl lk_X13_217) me_X13_spaceOf mv_X13_spaceOf ⟨by decide, by decide⟩ rfl rfl rfl (Nat.le_of_ble_eq_true rfl) (P_X13_spaceOf X x0 1 x1 3 h) (fun v1 h2 => ?_)
  show jv_O X M_X13_oneIn _ jeI 10 [some (.ref (x0)), some (.int (x1)), some (.int (x2)), some (.int (x3)), none] [.int (v1), .int (x3)] h2 _
  refine jv_icmp_ge (tgt := 84) (jv_dk t_X13_oneIn (k := 8) rfl) rfl (fun c3 => ?_) (fun c3 => ?_)
  · refine jv_le_row (jv_le_n (jv_le_n (jv_le_n (jv_le_n (jv_le_n (jv_le_nil)))))) ?_
    exact hK2 _ 
  · show jv_O _ _ _ _ 13 _ _ _ _
    refine jv_aload_n (jv_dk t_X13_oneIn (k := 9) rfl) rfl rfl (Or.inr ⟨_, rfl⟩) ?_
    refine jv_iload_n (jv_dk t_X13_oneIn (k := 10) rfl) rfl rfl ?_
    refine jv_iload_n (jv_dk t_X13_oneIn (k := 11) rfl) rfl rfl ?_
    refine jv_callV (en' := jeI) (pv := jpI) (As := [.int (x1), .int (x3)]) (S := []) (jv_dk t_X13_oneIn (k := 12) rfl) (fun _ => rfl) (Or.inl lk_X13_224) me_X13_rangeAt mv_X13_rangeAt ⟨by decide, by decide⟩ rfl rfl rfl (Nat.le_of_ble_eq_true rfl) (P_X13_rangeAt X x0 x1 x3 h2) (fun v4 h5 => ?_)
    show jv_O X M_X13_oneIn _ jeI 19 [some (.ref (x0)), some (.int (x1)), some (.int (x2)), some (.int (x3)), none] [.int (v4)] h5 _
    refine jv_istore (L' := [some (.ref (x0)), some (.int (x1)), some (.int (x2)), some (.int (x3)), some (.int (v4))]) (jv_dk t_X13_oneIn (k := 13) rfl) (Nat.le_of_ble_eq_true rfl) rfl ?_
    refine jv_iload_n (jv_dk t_X13_oneIn (k := 14) rfl) rfl rfl ?_
    refine jv_aload_n (jv_dk t_X13_oneIn (k := 15) rfl) rfl rfl (Or.inr ⟨_, rfl⟩) ?_
    refine jv_gR (jv_dk t_X13_oneIn (k := 16) rfl) fl_X13_37 (fun v6 => ?_)
    refine jv_iload (jv_dk t_X13_oneIn (k := 17) rfl) rfl ?_
    refine jv_iconst (v := 1) (jv_dk t_X13_oneIn (k := 18) rfl) (by decide) ?_
    refine jv_iadd (jv_dk t_X13_oneIn (k := 19) rfl) ?_
    refine jv_iaload (jv_dk t_X13_oneIn (k := 20) rfl) (fun v7 => ?_)
    refine jv_aload_n (jv_dk t_X13_oneIn (k := 21) rfl) rfl rfl (Or.inr ⟨_, rfl⟩) ?_
    refine jv_gR (jv_dk t_X13_oneIn (k := 22) rfl) fl_X13_37 (fun v8 => ?_)
    refine jv_iload (jv_dk t_X13_oneIn (k := 23) rfl) rfl ?_
    refine jv_iconst (v := 1) (jv_dk t_X13_oneIn (k := 24) rfl) (by decide) ?_
    refine jv_iadd (jv_dk t_X13_oneIn (k := 25) rfl) ?_
    refine jv_iaload (jv_dk t_X13_oneIn (k := 26) rfl) (fun v9 => ?_)
    refine jv_aload_n (jv_dk t_X13_oneIn (k := 27) rfl) rfl rfl (Or.inr ⟨_, rfl⟩) ?_
    refine jv_gR (jv_dk t_X13_oneIn (k := 28) rfl) fl_X13_37 (fun v10 => ?_)
    refine jv_iload (jv_dk t_X13_oneIn (k := 29) rfl) rfl ?_
    refine jv_iconst (v := 2) (jv_dk t_X13_oneIn (k := 30) rfl) (by decide) ?_
    refine jv_iadd (jv_dk t_X13_oneIn (k := 31) rfl) ?_
    refine jv_iaload (jv_dk t_X13_oneIn (k := 32) rfl) (fun v11 => ?_)
    refine jv_iadd (jv_dk t_X13_oneIn (k := 33) rfl) ?_
    refine jv_iconst (v := 1) (jv_dk t_X13_oneIn (k := 34) rfl) (by decide) ?_
    refine jv_isub (jv_dk t_X13_oneIn (k := 35) rfl) ?_
    refine jv_callS (en' := jeI) (pv := jpI) (As := [.int (x2), .int (v7), .int ((v9 + v11) - 1)]) (S := []) (jv_dk t_X13_oneIn (k := 36) rfl) (fun _ => rfl) (Or.inl lk_X13_169) me_X13_isIn ms_X13_isIn ⟨by decide, by decide⟩ rfl rfl (Nat.le_of_ble_eq_true rfl) (P_X13_isIn X x2 v7 ((v9 + v11) - 1) h5) (fun v12 h13 => ?_)
    show jv_O X M_X13_oneIn _ jeI 55 [some (.ref (x0)), some (.int (x1)), some (.int (x2)), some (.int (x3)), some (.int (v4))] [.int (v12)] h13 _
    refine jv_if_eq (tgt := 78) (jv_dk t_X13_oneIn (k := 37) rfl) rfl (fun c14 => ?_) (fun c14 => ?_)
    · refine jv_iinc (v := 1) (L' := [some (.ref (x0)), some (.int (x1)), some (.int (x2)), some (.int (x3 + 1)), some (.int (v4))]) (jv_dk t_X13_oneIn (k := 52) rfl) rfl (by decide) rfl ?_
      refine jv_goto (tgt := 2) (jv_dk t_X13_oneIn (k := 53) rfl) rfl ?_
      refine jv_le_row (jv_le_s (jv_le_s (jv_le_s (jv_le_s (jv_le_n (jv_le_nil)))))) ?_
      exact hR2 _ _ _ _ _ 
    · show jv_O _ _ _ _ 58 _ _ _ _
      refine jv_aload_n (jv_dk t_X13_oneIn (k := 38) rfl) rfl rfl (Or.inr ⟨_, rfl⟩) ?_
      refine jv_gR (jv_dk t_X13_oneIn (k := 39) rfl) fl_X13_37 (fun v15 => ?_)
      refine jv_iload (jv_dk t_X13_oneIn (k := 40) rfl) rfl ?_
      refine jv_iaload (jv_dk t_X13_oneIn (k := 41) rfl) (fun v16 => ?_)
      refine jv_iload_n (jv_dk t_X13_oneIn (k := 42) rfl) rfl rfl ?_
      refine jv_iadd (jv_dk t_X13_oneIn (k := 43) rfl) ?_
      refine jv_aload_n (jv_dk t_X13_oneIn (k := 44) rfl) rfl rfl (Or.inr ⟨_, rfl⟩) ?_
      refine jv_gR (jv_dk t_X13_oneIn (k := 45) rfl) fl_X13_37 (fun v17 => ?_)
      refine jv_iload (jv_dk t_X13_oneIn (k := 46) rfl) rfl ?_
      refine jv_iconst (v := 1) (jv_dk t_X13_oneIn (k := 47) rfl) (by decide) ?_
      refine jv_iadd (jv_dk t_X13_oneIn (k := 48) rfl) ?_
      refine jv_iaload (jv_dk t_X13_oneIn (k := 49) rfl) (fun v18 => ?_)
      refine jv_isub (jv_dk t_X13_oneIn (k := 50) rfl) ?_
      exact jv_iret (ty := .int) (jv_dk t_X13_oneIn (k := 51) rfl) rfl rfl rfl
def f_X13_oneIn (a0 : Nat) (a1 : Int32) (a2 : Int32) (h : jh) : Option (Int32 × jh) :=
  jlp4 (f_X13_oneIn_h2 (fun  h19 =>
  some (65534, h19))) jfu a0 a1 a2 0 h
theorem P_X13_oneIn (X : jx) (a0 : Nat) (a1 : Int32) (a2 : Int32) (h : jh) : jv_P X M_X13_oneIn jeI [.ref (a0), .int (a1), .int (a2)] h (f_X13_oneIn a0 a1 a2 h) := by
  refine jv_P.of (by decide) rfl (by simp [Value.category]) (Nat.le_of_ble_eq_true rfl) ?_
  show jv_O X M_X13_oneIn (h.1, h.2.1) jeI 0 [some (.ref (a0)), some (.int (a1)), some (.int (a2)), none, none] [] h (f_X13_oneIn a0 a1 a2 h)
  unfold f_X13_oneIn
  refine jv_iconst (v := 0) (jv_dk t_X13_oneIn (k := 0) rfl) (by decide) ?_
  refine jv_istore_n (L' := [some (.ref (a0)), some (.int (a1)), some (.int (a2)), some (.int (0)), none]) (jv_dk t_X13_oneIn (k := 1) rfl) rfl (Nat.le_of_ble_eq_true rfl) rfl ?_
  refine o_f_X13_oneIn_h2 (fun  h19 => ?_) _ _ _ _ _ 
  show jv_O X M_X13_oneIn _ jeI 84 [none, none, none, none, none] [] h19 _
  refine jv_ldc (jv_dk t_X13_oneIn (k := 54) rfl) cn_X13_227 ?_
  exact jv_iret (ty := .int) (jv_dk t_X13_oneIn (k := 55) rfl) rfl rfl rfl
def t0_X13_fromRoot : List (Nat × Instr × Nat) := [(0, .iconst 0, 1), (1, .istore_n 3, 1), (2, .iload_n 1, 1), (3, .istore 4, 2), (5, .iload 4, 2), (7, .ifCond .le 27, 3), (10, .aload_n 0, 1), (11, .getfield 54, 3), (14, .iload_n 3, 1), (15, .iload 4, 2), (17, .iastore, 1), (18, .iinc 3 1, 3), (21, .aload_n 0, 1), (22, .iconst 1, 1), (23, .iload 4, 2), (25, .iconst 0, 1), (26, .invokevirtual 217, 3), (29, .istore 4, 2), (31, .goto (-26), 3), (34, .iload_n 2, 1), (35, .istore 4, 2), (37, .iload_n 3, 1), (38, .iconst 1, 1), (39, .isub, 1), (40, .istore 5, 2), (42, .iload 5, 2), (44, .ifCond .lt 31, 3), (47, .iload 4, 2), (49, .ldc 227, 2), (51, .if_icmp .eq 24, 3), (54, .aload_n 0, 1), (55, .aload_n 0, 1), (56, .getfield 54, 3), (59, .iload 5, 2), (61, .iaload, 1), (62, .iload 4, 2), (64, .invokevirtual 231, 3), (67, .istore 4, 2), (69, .iinc 5 (-1), 3), (72, .goto (-30), 3), (75, .iload 4, 2), (77, .ireturn, 1)]
theorem t_X13_fromRoot : jv_dec cX13_fromRoot t0_X13_fromRoot = true := by decide +kernel
def M_X13_fromRoot : jm := (yX13_fromRoot, cX13_fromRoot, 6, (some .int), 3, 68, [])
theorem lk_X13_231 : Cond.methodLink RX13 231 M_X13_oneIn.1 ∈ lw_tbl := (jv_at 1632 (by decide +kernel))
set_option maxRecDepth 20000 in
theorem me_X13_oneIn : jv_me M_X13_oneIn 2 := ⟨(jv_in7 (List.mem_of_getElem? (i := 35) rfl)), (jv_at 172 (by decide +kernel)), ⟨by decide, by decide⟩, by decide +kernel⟩
theorem mv_X13_oneIn : jv_mv M_X13_oneIn := ⟨(jv_at 1634 (by decide +kernel)), (jv_at 125 (by decide +kernel))⟩
def f_X13_fromRoot_h5 (K5 : Nat → Int32 → Int32 → jh → Option (Int32 × jh)) (R5 : Nat → Int32 → Int32 → Int32 → jh → Option (Int32 × jh)) (x0 : Nat) (x2 : Int32) (x3 : Int32) (x4 : Int32) (h : jh) : Option (Int32 × jh) :=
  (if x4 ≤ 0 then
  K5 x0 x2 x3 h
  else
  gR h x0 11 17 fun v2 =>
  sI h v2 x3 x4 fun h3 =>
  cV h3 x0 11 (f_X13_spaceOf x0 1 x4 0 h3) fun v4 h5 =>
  R5 x0 x2 (x3 + 1) v4 h5)
theorem o_f_X13_fromRoot_h5 {X : jx} {b0 : Nat × Nat} {K5 : Nat → Int32 → Int32 → jh → Option (Int32 × jh)} (hK5 : ∀ (x0 : Nat) (x2 : Int32) (x3 : Int32) (h : jh), jv_O X M_X13_fromRoot b0 jeI 34 [some (.ref (x0)), none, some (.int (x2)), some (.int (x3)), none, none] [] h (K5 x0 x2 x3 h)) : ∀ (x0 : Nat) (x2 : Int32) (x3 : Int32) (x4 : Int32) (h : jh), jv_O X M_X13_fromRoot b0 jeI 5 [some (.ref (x0)), none, some (.int (x2)), some (.int (x3)), some (.int (x4)), none] [] h (jlp4 (f_X13_fromRoot_h5 K5) jfu x0 x2 x3 x4 h) := by
  refine jlp4_ok (P := fun x0 x2 x3 x4 h o => jv_O X M_X13_fromRoot b0 jeI 5 [some (.ref (x0)), none, some (.int (x2)), some (.int (x3)), some (.int (x4)), none] [] h o) (fun R5 hR5 => ?_) (fun _ _ _ _ _  => jv_none rfl) jfu
  intro x0 x2 x3 x4 h
  unfold f_X13_fromRoot_h5
  refine jv_iload (jv_dk t_X13_fromRoot (k := 4) rfl) rfl ?_
  refine jv_if_le (tgt := 34) (jv_dk t_X13_fromRoot (k := 5) rfl) rfl (fun c1 => ?_) (fun c1 => ?_)
  · refine jv_le_row (jv_le_s (jv_le_n (jv_le_s (jv_le_s (jv_le_n (jv_le_n (jv_le_nil))))))) ?_
    exact hK5 _ _ _ _ 
  · show jv_O _ _ _ _ 10 _ _ _ _
    refine jv_aload_n (jv_dk t_X13_fromRoot (k := 6) rfl) rfl rfl (Or.inr ⟨_, rfl⟩) ?_
    refine jv_gR (jv_dk t_X13_fromRoot (k := 7) rfl) fl_X13_54 (fun v2 => ?_)
    refine jv_iload_n (jv_dk t_X13_fromRoot (k := 8) rfl) rfl rfl ?_
    refine jv_iload (jv_dk t_X13_fromRoot (k := 9) rfl) rfl ?_
    refine jv_iastore (jv_dk t_X13_fromRoot (k := 10) rfl) (fun h3 => ?_)
    refine jv_iinc (v := 1) (L' := [some (.ref (x0)), none, some (.int (x2)), some (.int (x3 + 1)), some (.int (x4)), none]) (jv_dk t_X13_fromRoot (k := 11) rfl) rfl (by decide) rfl ?_
    refine jv_aload_n (jv_dk t_X13_fromRoot (k := 12) rfl) rfl rfl (Or.inr ⟨_, rfl⟩) ?_
    refine jv_iconst (v := 1) (jv_dk t_X13_fromRoot (k := 13) rfl) (by decide) ?_
    refine jv_iload (jv_dk t_X13_fromRoot (k := 14) rfl) rfl ?_
    refine jv_iconst (v := 0) (jv_dk t_X13_fromRoot (k := 15) rfl) (by decide) ?_
    refine jv_callV (en' := jeI) (pv := jpI) (As := [.int (1), .int (x4), .int (0)]) (S := []) (jv_dk t_X13_fromRoot (k := 16) rfl) (fun _ => rfl) (Or.inl lk_X13_217) me_X13_spaceOf mv_X13_spaceOf ⟨by decide, by decide⟩ rfl rfl rfl (Nat.le_of_ble_eq_true rfl) (P_X13_spaceOf X x0 1 x4 0 h3) (fun v4 h5 => ?_)
    show jv_O X M_X13_fromRoot _ jeI 29 [some (.ref (x0)), none, some (.int (x2)), some (.int (x3 + 1)), some (.int (x4)), none] [.int (v4)] h5 _
    refine jv_istore (L' := [some (.ref (x0)), none, some (.int (x2)), some (.int (x3 + 1)), some (.int (v4)), none]) (jv_dk t_X13_fromRoot (k := 17) rfl) (Nat.le_of_ble_eq_true rfl) rfl ?_
    refine jv_goto (tgt := 5) (jv_dk t_X13_fromRoot (k := 18) rfl) rfl ?_
    exact hR5 _ _ _ _ _ 
def f_X13_fromRoot_h42 (K42 : Int32 → jh → Option (Int32 × jh)) (R42 : Nat → Int32 → Int32 → jh → Option (Int32 × jh)) (x0 : Nat) (x4 : Int32) (x5 : Int32) (h : jh) : Option (Int32 × jh) :=
  (if x5 < 0 then
  K42 x4 h
  else
  (if x4 = 65534 then
  K42 x4 h
  else
  gR h x0 11 17 fun v12 =>
  aI h v12 x5 fun v13 =>
  cV h x0 11 (f_X13_oneIn x0 v13 x4 h) fun v14 h15 =>
  R42 x0 v14 (x5 + (-1)) h15))
theorem o_f_X13_fromRoot_h42 {X : jx} {b0 : Nat × Nat} {K42 : Int32 → jh → Option (Int32 × jh)} (hK42 : ∀ (x4 : Int32) (h : jh), jv_O X M_X13_fromRoot b0 jeI 75 [none, none, none, none, some (.int (x4)), none] [] h (K42 x4 h)) : ∀ (x0 : Nat) (x4 : Int32) (x5 : Int32) (h : jh), jv_O X M_X13_fromRoot b0 jeI 42 [some (.ref (x0)), none, none, none, some (.int (x4)), some (.int (x5))] [] h (jlp3 (f_X13_fromRoot_h42 K42) jfu x0 x4 x5 h) := by
  refine jlp3_ok (P := fun x0 x4 x5 h o => jv_O X M_X13_fromRoot b0 jeI 42 [some (.ref (x0)), none, none, none, some (.int (x4)), some (.int (x5))] [] h o) (fun R42 hR42 => ?_) (fun _ _ _ _  => jv_none rfl) jfu
  intro x0 x4 x5 h
  unfold f_X13_fromRoot_h42
  refine jv_iload (jv_dk t_X13_fromRoot (k := 25) rfl) rfl ?_
  refine jv_if_lt (tgt := 75) (jv_dk t_X13_fromRoot (k := 26) rfl) rfl (fun c10 => ?_) (fun c10 => ?_)
  · refine jv_le_row (jv_le_n (jv_le_n (jv_le_n (jv_le_n (jv_le_s (jv_le_n (jv_le_nil))))))) ?_
    exact hK42 _ _ 
  · show jv_O _ _ _ _ 47 _ _ _ _
    refine jv_iload (jv_dk t_X13_fromRoot (k := 27) rfl) rfl ?_
    refine jv_ldc (jv_dk t_X13_fromRoot (k := 28) rfl) cn_X13_227 ?_
    refine jv_icmp_eq (tgt := 75) (jv_dk t_X13_fromRoot (k := 29) rfl) rfl (fun c11 => ?_) (fun c11 => ?_)
    · refine jv_le_row (jv_le_n (jv_le_n (jv_le_n (jv_le_n (jv_le_s (jv_le_n (jv_le_nil))))))) ?_
      exact hK42 _ _ 
    · show jv_O _ _ _ _ 54 _ _ _ _
      refine jv_aload_n (jv_dk t_X13_fromRoot (k := 30) rfl) rfl rfl (Or.inr ⟨_, rfl⟩) ?_
      refine jv_aload_n (jv_dk t_X13_fromRoot (k := 31) rfl) rfl rfl (Or.inr ⟨_, rfl⟩) ?_
      refine jv_gR (jv_dk t_X13_fromRoot (k := 32) rfl) fl_X13_54 (fun v12 => ?_)
      refine jv_iload (jv_dk t_X13_fromRoot (k := 33) rfl) rfl ?_
      refine jv_iaload (jv_dk t_X13_fromRoot (k := 34) rfl) (fun v13 => ?_)
      refine jv_iload (jv_dk t_X13_fromRoot (k := 35) rfl) rfl ?_
      refine jv_callV (en' := jeI) (pv := jpI) (As := [.int (v13), .int (x4)]) (S := []) (jv_dk t_X13_fromRoot (k := 36) rfl) (fun _ => rfl) (Or.inl lk_X13_231) me_X13_oneIn mv_X13_oneIn ⟨by decide, by decide⟩ rfl rfl rfl (Nat.le_of_ble_eq_true rfl) (P_X13_oneIn X x0 v13 x4 h) (fun v14 h15 => ?_)
      show jv_O X M_X13_fromRoot _ jeI 67 [some (.ref (x0)), none, none, none, some (.int (x4)), some (.int (x5))] [.int (v14)] h15 _
      refine jv_istore (L' := [some (.ref (x0)), none, none, none, some (.int (v14)), some (.int (x5))]) (jv_dk t_X13_fromRoot (k := 37) rfl) (Nat.le_of_ble_eq_true rfl) rfl ?_
      refine jv_iinc (v := (-1)) (L' := [some (.ref (x0)), none, none, none, some (.int (v14)), some (.int (x5 + (-1)))]) (jv_dk t_X13_fromRoot (k := 38) rfl) rfl (by decide) rfl ?_
      refine jv_goto (tgt := 42) (jv_dk t_X13_fromRoot (k := 39) rfl) rfl ?_
      exact hR42 _ _ _ _ 
def f_X13_fromRoot (a0 : Nat) (a1 : Int32) (a2 : Int32) (h : jh) : Option (Int32 × jh) :=
  jlp4 (f_X13_fromRoot_h5 (fun y7 y8 y9 h6 =>
  jlp3 (f_X13_fromRoot_h42 (fun y17 h16 =>
  some (y17, h16))) jfu y7 y8 (y9 - 1) h6)) jfu a0 a2 0 a1 h
theorem P_X13_fromRoot (X : jx) (a0 : Nat) (a1 : Int32) (a2 : Int32) (h : jh) : jv_P X M_X13_fromRoot jeI [.ref (a0), .int (a1), .int (a2)] h (f_X13_fromRoot a0 a1 a2 h) := by
  refine jv_P.of (by decide) rfl (by simp [Value.category]) (Nat.le_of_ble_eq_true rfl) ?_
  show jv_O X M_X13_fromRoot (h.1, h.2.1) jeI 0 [some (.ref (a0)), some (.int (a1)), some (.int (a2)), none, none, none] [] h (f_X13_fromRoot a0 a1 a2 h)
  unfold f_X13_fromRoot
  refine jv_iconst (v := 0) (jv_dk t_X13_fromRoot (k := 0) rfl) (by decide) ?_
  refine jv_istore_n (L' := [some (.ref (a0)), some (.int (a1)), some (.int (a2)), some (.int (0)), none, none]) (jv_dk t_X13_fromRoot (k := 1) rfl) rfl (Nat.le_of_ble_eq_true rfl) rfl ?_
  refine jv_iload_n (jv_dk t_X13_fromRoot (k := 2) rfl) rfl rfl ?_
  refine jv_istore (L' := [some (.ref (a0)), some (.int (a1)), some (.int (a2)), some (.int (0)), some (.int (a1)), none]) (jv_dk t_X13_fromRoot (k := 3) rfl) (Nat.le_of_ble_eq_true rfl) rfl ?_
  refine jv_le_row (jv_le_s (jv_le_n (jv_le_s (jv_le_s (jv_le_s (jv_le_n (jv_le_nil))))))) ?_
  refine o_f_X13_fromRoot_h5 (fun y7 y8 y9 h6 => ?_) _ _ _ _ _ 
  show jv_O X M_X13_fromRoot _ jeI 34 [some (.ref (y7)), none, some (.int (y8)), some (.int (y9)), none, none] [] h6 _
  refine jv_iload_n (jv_dk t_X13_fromRoot (k := 19) rfl) rfl rfl ?_
  refine jv_istore (L' := [some (.ref (y7)), none, some (.int (y8)), some (.int (y9)), some (.int (y8)), none]) (jv_dk t_X13_fromRoot (k := 20) rfl) (Nat.le_of_ble_eq_true rfl) rfl ?_
  refine jv_iload_n (jv_dk t_X13_fromRoot (k := 21) rfl) rfl rfl ?_
  refine jv_iconst (v := 1) (jv_dk t_X13_fromRoot (k := 22) rfl) (by decide) ?_
  refine jv_isub (jv_dk t_X13_fromRoot (k := 23) rfl) ?_
  refine jv_istore (L' := [some (.ref (y7)), none, some (.int (y8)), some (.int (y9)), some (.int (y8)), some (.int (y9 - 1))]) (jv_dk t_X13_fromRoot (k := 24) rfl) (Nat.le_of_ble_eq_true rfl) rfl ?_
  refine jv_le_row (jv_le_s (jv_le_n (jv_le_n (jv_le_n (jv_le_s (jv_le_s (jv_le_nil))))))) ?_
  refine o_f_X13_fromRoot_h42 (fun y17 h16 => ?_) _ _ _ _ 
  show jv_O X M_X13_fromRoot _ jeI 75 [none, none, none, none, some (.int (y17)), none] [] h16 _
  refine jv_iload (jv_dk t_X13_fromRoot (k := 40) rfl) rfl ?_
  exact jv_iret (ty := .int) (jv_dk t_X13_fromRoot (k := 41) rfl) rfl rfl rfl
def t0_X13_hasOver : List (Nat × Instr × Nat) := [(0, .iload 4, 2), (2, .istore 5, 2), (4, .iload 5, 2), (6, .iconst (-1), 1), (7, .if_icmp .eq 59, 3), (10, .iload 5, 2), (12, .iload_n 1, 1), (13, .if_icmp .ne 14, 3), (16, .iload_n 3, 1), (17, .iconst 1, 1), (18, .if_icmp .ne 7, 3), (21, .iconst 1, 1), (22, .goto 4, 3), (25, .iconst 0, 1), (26, .ireturn, 1), (27, .aload_n 0, 1), (28, .iconst 1, 1), (29, .iload 5, 2), (31, .iconst 0, 1), (32, .invokevirtual 217, 3), (35, .iload_n 1, 1), (36, .if_icmp .ne 17, 3), (39, .aload_n 0, 1), (40, .iconst 1, 1), (41, .iload 5, 2), (43, .iconst 2, 1), (44, .invokevirtual 217, 3), (47, .iload_n 2, 1), (48, .if_icmp .ne 5, 3), (51, .iconst 1, 1), (52, .ireturn, 1), (53, .aload_n 0, 1), (54, .iconst 1, 1), (55, .iload 5, 2), (57, .iconst 0, 1), (58, .invokevirtual 217, 3), (61, .istore 5, 2), (63, .goto (-59), 3), (66, .iconst 0, 1), (67, .ireturn, 1)]
theorem t_X13_hasOver : jv_dec cX13_hasOver t0_X13_hasOver = true := by decide +kernel
def M_X13_hasOver : jm := (yX13_hasOver, cX13_hasOver, 6, (some .boolean), 2, 44, [])
def f_X13_hasOver_b53 (R4 : Nat → Int32 → Int32 → Int32 → Int32 → jh → Option (Int32 × jh)) (K4 : jh → Option (Int32 × jh)) (x0 : Nat) (x1 : Int32) (x2 : Int32) (x3 : Int32) (x5 : Int32) (h : jh) : Option (Int32 × jh) :=
  cV h x0 11 (f_X13_spaceOf x0 1 x5 0 h) fun v6 h7 =>
  R4 x0 x1 x2 x3 v6 h7
theorem o_f_X13_hasOver_b53 {X : jx} {b0 : Nat × Nat} {R4 : Nat → Int32 → Int32 → Int32 → Int32 → jh → Option (Int32 × jh)} {K4 : jh → Option (Int32 × jh)} (hR4 : ∀ (x0 : Nat) (x1 : Int32) (x2 : Int32) (x3 : Int32) (x5 : Int32) (h : jh), jv_O X M_X13_hasOver b0 jeI 4 [some (.ref (x0)), some (.int (x1)), some (.int (x2)), some (.int (x3)), none, some (.int (x5))] [] h (R4 x0 x1 x2 x3 x5 h)) (hK4 : ∀  (h : jh), jv_O X M_X13_hasOver b0 jeI 66 [none, none, none, none, none, none] [] h (K4  h)) (x0 : Nat) (x1 : Int32) (x2 : Int32) (x3 : Int32) (x5 : Int32) (h : jh) : jv_O X M_X13_hasOver b0 jeI 53 [some (.ref (x0)), some (.int (x1)), some (.int (x2)), some (.int (x3)), none, some (.int (x5))] [] h (f_X13_hasOver_b53 R4 K4 x0 x1 x2 x3 x5 h) := by
  unfold f_X13_hasOver_b53
  refine jv_aload_n (jv_dk t_X13_hasOver (k := 31) rfl) rfl rfl (Or.inr ⟨_, rfl⟩) ?_
  refine jv_iconst (v := 1) (jv_dk t_X13_hasOver (k := 32) rfl) (by decide) ?_
  refine jv_iload (jv_dk t_X13_hasOver (k := 33) rfl) rfl ?_
  refine jv_iconst (v := 0) (jv_dk t_X13_hasOver (k := 34) rfl) (by decide) ?_
  refine jv_callV (en' := jeI) (pv := jpI) (As := [.int (1), .int (x5), .int (0)]) (S := []) (jv_dk t_X13_hasOver (k := 35) rfl) (fun _ => rfl) (Or.inl lk_X13_217) me_X13_spaceOf mv_X13_spaceOf ⟨by decide, by decide⟩ rfl rfl rfl (Nat.le_of_ble_eq_true rfl) (P_X13_spaceOf X x0 1 x5 0 h) (fun v6 h7 => ?_)
  show jv_O X M_X13_hasOver _ jeI 61 [some (.ref (x0)), some (.int (x1)), some (.int (x2)), some (.int (x3)), none, some (.int (x5))] [.int (v6)] h7 _
  refine jv_istore (L' := [some (.ref (x0)), some (.int (x1)), some (.int (x2)), some (.int (x3)), none, some (.int (v6))]) (jv_dk t_X13_hasOver (k := 36) rfl) (Nat.le_of_ble_eq_true rfl) rfl ?_
  refine jv_goto (tgt := 4) (jv_dk t_X13_hasOver (k := 37) rfl) rfl ?_
  exact hR4 _ _ _ _ _ _ 
def f_X13_hasOver_h4 (K4 : jh → Option (Int32 × jh)) (R4 : Nat → Int32 → Int32 → Int32 → Int32 → jh → Option (Int32 × jh)) (x0 : Nat) (x1 : Int32) (x2 : Int32) (x3 : Int32) (x5 : Int32) (h : jh) : Option (Int32 × jh) :=
  (if x5 = (-1) then
  K4  h
  else
  (if ¬ x5 = x1 then
  cV h x0 11 (f_X13_spaceOf x0 1 x5 0 h) fun v3 h4 =>
  (if ¬ v3 = x1 then
  f_X13_hasOver_b53 R4 K4 x0 x1 x2 x3 x5 h4
  else
  cV h4 x0 11 (f_X13_spaceOf x0 1 x5 2 h4) fun v8 h9 =>
  (if ¬ v8 = x2 then
  f_X13_hasOver_b53 R4 K4 x0 x1 x2 x3 x5 h9
  else
  some (1, h9)))
  else
  (if ¬ x3 = 1 then
  some (0, h)
  else
  some (1, h))))
theorem o_f_X13_hasOver_h4 {X : jx} {b0 : Nat × Nat} {K4 : jh → Option (Int32 × jh)} (hK4 : ∀  (h : jh), jv_O X M_X13_hasOver b0 jeI 66 [none, none, none, none, none, none] [] h (K4  h)) : ∀ (x0 : Nat) (x1 : Int32) (x2 : Int32) (x3 : Int32) (x5 : Int32) (h : jh), jv_O X M_X13_hasOver b0 jeI 4 [some (.ref (x0)), some (.int (x1)), some (.int (x2)), some (.int (x3)), none, some (.int (x5))] [] h (jlp5 (f_X13_hasOver_h4 K4) jfu x0 x1 x2 x3 x5 h) := by
  refine jlp5_ok (P := fun x0 x1 x2 x3 x5 h o => jv_O X M_X13_hasOver b0 jeI 4 [some (.ref (x0)), some (.int (x1)), some (.int (x2)), some (.int (x3)), none, some (.int (x5))] [] h o) (fun R4 hR4 => ?_) (fun _ _ _ _ _ _  => jv_none rfl) jfu
  intro x0 x1 x2 x3 x5 h
  unfold f_X13_hasOver_h4
  refine jv_iload (jv_dk t_X13_hasOver (k := 2) rfl) rfl ?_
  refine jv_iconst (v := (-1)) (jv_dk t_X13_hasOver (k := 3) rfl) (by decide) ?_
  refine jv_icmp_eq (tgt := 66) (jv_dk t_X13_hasOver (k := 4) rfl) rfl (fun c1 => ?_) (fun c1 => ?_)
  · refine jv_le_row (jv_le_n (jv_le_n (jv_le_n (jv_le_n (jv_le_n (jv_le_n (jv_le_nil))))))) ?_
    exact hK4 _ 
  · show jv_O _ _ _ _ 10 _ _ _ _
    refine jv_iload (jv_dk t_X13_hasOver (k := 5) rfl) rfl ?_
    refine jv_iload_n (jv_dk t_X13_hasOver (k := 6) rfl) rfl rfl ?_
    refine jv_icmp_ne (tgt := 27) (jv_dk t_X13_hasOver (k := 7) rfl) rfl (fun c2 => ?_) (fun c2 => ?_)
    · refine jv_aload_n (jv_dk t_X13_hasOver (k := 15) rfl) rfl rfl (Or.inr ⟨_, rfl⟩) ?_
      refine jv_iconst (v := 1) (jv_dk t_X13_hasOver (k := 16) rfl) (by decide) ?_
      refine jv_iload (jv_dk t_X13_hasOver (k := 17) rfl) rfl ?_
      refine jv_iconst (v := 0) (jv_dk t_X13_hasOver (k := 18) rfl) (by decide) ?_
      refine jv_callV (en' := jeI) (pv := jpI) (As := [.int (1), .int (x5), .int (0)]) (S := []) (jv_dk t_X13_hasOver (k := 19) rfl) (fun _ => rfl) (Or.inl lk_X13_217) me_X13_spaceOf mv_X13_spaceOf ⟨by decide, by decide⟩ rfl rfl rfl (Nat.le_of_ble_eq_true rfl) (P_X13_spaceOf X x0 1 x5 0 h) (fun v3 h4 => ?_)
      show jv_O X M_X13_hasOver _ jeI 35 [some (.ref (x0)), some (.int (x1)), some (.int (x2)), some (.int (x3)), none, some (.int (x5))] [.int (v3)] h4 _
      refine jv_iload_n (jv_dk t_X13_hasOver (k := 20) rfl) rfl rfl ?_
      refine jv_icmp_ne (tgt := 53) (jv_dk t_X13_hasOver (k := 21) rfl) rfl (fun c5 => ?_) (fun c5 => ?_)
      · exact o_f_X13_hasOver_b53 hR4 hK4 _ _ _ _ _ _ 
      · show jv_O _ _ _ _ 39 _ _ _ _
        refine jv_aload_n (jv_dk t_X13_hasOver (k := 22) rfl) rfl rfl (Or.inr ⟨_, rfl⟩) ?_
        refine jv_iconst (v := 1) (jv_dk t_X13_hasOver (k := 23) rfl) (by decide) ?_
        refine jv_iload (jv_dk t_X13_hasOver (k := 24) rfl) rfl ?_
        refine jv_iconst (v := 2) (jv_dk t_X13_hasOver (k := 25) rfl) (by decide) ?_
        refine jv_callV (en' := jeI) (pv := jpI) (As := [.int (1), .int (x5), .int (2)]) (S := []) (jv_dk t_X13_hasOver (k := 26) rfl) (fun _ => rfl) (Or.inl lk_X13_217) me_X13_spaceOf mv_X13_spaceOf ⟨by decide, by decide⟩ rfl rfl rfl (Nat.le_of_ble_eq_true rfl) (P_X13_spaceOf X x0 1 x5 2 h4) (fun v8 h9 => ?_)
        show jv_O X M_X13_hasOver _ jeI 47 [some (.ref (x0)), some (.int (x1)), some (.int (x2)), some (.int (x3)), none, some (.int (x5))] [.int (v8)] h9 _
        refine jv_iload_n (jv_dk t_X13_hasOver (k := 27) rfl) rfl rfl ?_
        refine jv_icmp_ne (tgt := 53) (jv_dk t_X13_hasOver (k := 28) rfl) rfl (fun c10 => ?_) (fun c10 => ?_)
        · exact o_f_X13_hasOver_b53 hR4 hK4 _ _ _ _ _ _ 
        · show jv_O _ _ _ _ 51 _ _ _ _
          refine jv_iconst (v := 1) (jv_dk t_X13_hasOver (k := 29) rfl) (by decide) ?_
          exact jv_iret (ty := .boolean) (jv_dk t_X13_hasOver (k := 30) rfl) rfl rfl rfl
    · show jv_O _ _ _ _ 16 _ _ _ _
      refine jv_iload_n (jv_dk t_X13_hasOver (k := 8) rfl) rfl rfl ?_
      refine jv_iconst (v := 1) (jv_dk t_X13_hasOver (k := 9) rfl) (by decide) ?_
      refine jv_icmp_ne (tgt := 25) (jv_dk t_X13_hasOver (k := 10) rfl) rfl (fun c11 => ?_) (fun c11 => ?_)
      · refine jv_iconst (v := 0) (jv_dk t_X13_hasOver (k := 13) rfl) (by decide) ?_
        exact jv_iret (ty := .boolean) (jv_dk t_X13_hasOver (k := 14) rfl) rfl rfl rfl
      · show jv_O _ _ _ _ 21 _ _ _ _
        refine jv_iconst (v := 1) (jv_dk t_X13_hasOver (k := 11) rfl) (by decide) ?_
        refine jv_goto (tgt := 26) (jv_dk t_X13_hasOver (k := 12) rfl) rfl ?_
        exact jv_iret (ty := .boolean) (jv_dk t_X13_hasOver (k := 14) rfl) rfl rfl rfl
def f_X13_hasOver (a0 : Nat) (a1 : Int32) (a2 : Int32) (a3 : Int32) (a4 : Int32) (h : jh) : Option (Int32 × jh) :=
  jlp5 (f_X13_hasOver_h4 (fun  h12 =>
  some (0, h12))) jfu a0 a1 a2 a3 a4 h
theorem P_X13_hasOver (X : jx) (a0 : Nat) (a1 : Int32) (a2 : Int32) (a3 : Int32) (a4 : Int32) (h : jh) : jv_P X M_X13_hasOver jeI [.ref (a0), .int (a1), .int (a2), .int (a3), .int (a4)] h (f_X13_hasOver a0 a1 a2 a3 a4 h) := by
  refine jv_P.of (by decide) rfl (by simp [Value.category]) (Nat.le_of_ble_eq_true rfl) ?_
  show jv_O X M_X13_hasOver (h.1, h.2.1) jeI 0 [some (.ref (a0)), some (.int (a1)), some (.int (a2)), some (.int (a3)), some (.int (a4)), none] [] h (f_X13_hasOver a0 a1 a2 a3 a4 h)
  unfold f_X13_hasOver
  refine jv_iload (jv_dk t_X13_hasOver (k := 0) rfl) rfl ?_
  refine jv_istore (L' := [some (.ref (a0)), some (.int (a1)), some (.int (a2)), some (.int (a3)), some (.int (a4)), some (.int (a4))]) (jv_dk t_X13_hasOver (k := 1) rfl) (Nat.le_of_ble_eq_true rfl) rfl ?_
  refine jv_le_row (jv_le_s (jv_le_s (jv_le_s (jv_le_s (jv_le_n (jv_le_s (jv_le_nil))))))) ?_
  refine o_f_X13_hasOver_h4 (fun  h12 => ?_) _ _ _ _ _ _ 
  show jv_O X M_X13_hasOver _ jeI 66 [none, none, none, none, none, none] [] h12 _
  refine jv_iconst (v := 0) (jv_dk t_X13_hasOver (k := 38) rfl) (by decide) ?_
  exact jv_iret (ty := .boolean) (jv_dk t_X13_hasOver (k := 39) rfl) rfl rfl rfl
def t0_X13_isOver : List (Nat × Instr × Nat) := [(0, .aload_n 0, 1), (1, .aload_n 0, 1), (2, .iload_n 1, 1), (3, .iconst 3, 1), (4, .invokevirtual 205, 3), (7, .aload_n 0, 1), (8, .iload_n 1, 1), (9, .bipush 6, 2), (11, .invokevirtual 205, 3), (14, .aload_n 0, 1), (15, .iload_n 1, 1), (16, .bipush 7, 2), (18, .invokevirtual 205, 3), (21, .iload_n 2, 1), (22, .invokevirtual 234, 3), (25, .ireturn, 1)]
theorem t_X13_isOver : jv_dec cX13_isOver t0_X13_isOver = true := by decide +kernel
def M_X13_isOver : jm := (yX13_isOver, cX13_isOver, 3, (some .boolean), 3, 69, [])
theorem lk_X13_234 : Cond.methodLink RX13 234 M_X13_hasOver.1 ∈ lw_tbl := (jv_at 1640 (by decide +kernel))
set_option maxRecDepth 20000 in
theorem me_X13_hasOver : jv_me M_X13_hasOver 4 := ⟨(jv_in7 (List.mem_of_getElem? (i := 43) rfl)), (jv_at 172 (by decide +kernel)), ⟨by decide, by decide⟩, by decide +kernel⟩
theorem mv_X13_hasOver : jv_mv M_X13_hasOver := ⟨(jv_at 1642 (by decide +kernel)), (jv_at 127 (by decide +kernel))⟩
def f_X13_isOver (a0 : Nat) (a1 : Int32) (a2 : Int32) (h : jh) : Option (Int32 × jh) :=
  cV h a0 11 (f_X13_of a0 a1 3 h) fun v1 h2 =>
  cV h2 a0 11 (f_X13_of a0 a1 6 h2) fun v3 h4 =>
  cV h4 a0 11 (f_X13_of a0 a1 7 h4) fun v5 h6 =>
  cV h6 a0 11 (f_X13_hasOver a0 v1 v3 v5 a2 h6) fun v7 h8 =>
  jz v7 h8
theorem P_X13_isOver (X : jx) (a0 : Nat) (a1 : Int32) (a2 : Int32) (h : jh) : jv_P X M_X13_isOver jeI [.ref (a0), .int (a1), .int (a2)] h (f_X13_isOver a0 a1 a2 h) := by
  refine jv_P.of (by decide) rfl (by simp [Value.category]) (Nat.le_of_ble_eq_true rfl) ?_
  show jv_O X M_X13_isOver (h.1, h.2.1) jeI 0 [some (.ref (a0)), some (.int (a1)), some (.int (a2))] [] h (f_X13_isOver a0 a1 a2 h)
  unfold f_X13_isOver
  refine jv_aload_n (jv_dk t_X13_isOver (k := 0) rfl) rfl rfl (Or.inr ⟨_, rfl⟩) ?_
  refine jv_aload_n (jv_dk t_X13_isOver (k := 1) rfl) rfl rfl (Or.inr ⟨_, rfl⟩) ?_
  refine jv_iload_n (jv_dk t_X13_isOver (k := 2) rfl) rfl rfl ?_
  refine jv_iconst (v := 3) (jv_dk t_X13_isOver (k := 3) rfl) (by decide) ?_
  refine jv_callV (en' := jeI) (pv := jpI) (As := [.int (a1), .int (3)]) (S := [.ref (a0)]) (jv_dk t_X13_isOver (k := 4) rfl) (fun _ => rfl) (Or.inl lk_X13_205) me_X13_of mv_X13_of ⟨by decide, by decide⟩ rfl rfl rfl (Nat.le_of_ble_eq_true rfl) (P_X13_of X a0 a1 3 h) (fun v1 h2 => ?_)
  show jv_O X M_X13_isOver _ jeI 7 [some (.ref (a0)), some (.int (a1)), some (.int (a2))] [.int (v1), .ref (a0)] h2 _
  refine jv_aload_n (jv_dk t_X13_isOver (k := 5) rfl) rfl rfl (Or.inr ⟨_, rfl⟩) ?_
  refine jv_iload_n (jv_dk t_X13_isOver (k := 6) rfl) rfl rfl ?_
  refine jv_bipush (v := 6) (jv_dk t_X13_isOver (k := 7) rfl) (by decide) ?_
  refine jv_callV (en' := jeI) (pv := jpI) (As := [.int (a1), .int (6)]) (S := [.int (v1), .ref (a0)]) (jv_dk t_X13_isOver (k := 8) rfl) (fun _ => rfl) (Or.inl lk_X13_205) me_X13_of mv_X13_of ⟨by decide, by decide⟩ rfl rfl rfl (Nat.le_of_ble_eq_true rfl) (P_X13_of X a0 a1 6 h2) (fun v3 h4 => ?_)
  show jv_O X M_X13_isOver _ jeI 14 [some (.ref (a0)), some (.int (a1)), some (.int (a2))] [.int (v3), .int (v1), .ref (a0)] h4 _
  refine jv_aload_n (jv_dk t_X13_isOver (k := 9) rfl) rfl rfl (Or.inr ⟨_, rfl⟩) ?_
  refine jv_iload_n (jv_dk t_X13_isOver (k := 10) rfl) rfl rfl ?_
  refine jv_bipush (v := 7) (jv_dk t_X13_isOver (k := 11) rfl) (by decide) ?_
  refine jv_callV (en' := jeI) (pv := jpI) (As := [.int (a1), .int (7)]) (S := [.int (v3), .int (v1), .ref (a0)]) (jv_dk t_X13_isOver (k := 12) rfl) (fun _ => rfl) (Or.inl lk_X13_205) me_X13_of mv_X13_of ⟨by decide, by decide⟩ rfl rfl rfl (Nat.le_of_ble_eq_true rfl) (P_X13_of X a0 a1 7 h4) (fun v5 h6 => ?_)
  show jv_O X M_X13_isOver _ jeI 21 [some (.ref (a0)), some (.int (a1)), some (.int (a2))] [.int (v5), .int (v3), .int (v1), .ref (a0)] h6 _
  refine jv_iload_n (jv_dk t_X13_isOver (k := 13) rfl) rfl rfl ?_
  refine jv_callV (en' := jeI) (pv := jpI) (As := [.int (v1), .int (v3), .int (v5), .int (a2)]) (S := []) (jv_dk t_X13_isOver (k := 14) rfl) (fun _ => rfl) (Or.inl lk_X13_234) me_X13_hasOver mv_X13_hasOver ⟨by decide, by decide⟩ rfl rfl rfl (Nat.le_of_ble_eq_true rfl) (P_X13_hasOver X a0 v1 v3 v5 a2 h6) (fun v7 h8 => ?_)
  show jv_O X M_X13_isOver _ jeI 25 [some (.ref (a0)), some (.int (a1)), some (.int (a2))] [.int (v7)] h8 _
  unfold jz
  by_cases c9 : v7 &&& 1 = v7
  · rw [if_pos c9]; exact jv_iret (ty := .boolean) (jv_dk t_X13_isOver (k := 15) rfl) rfl (jv_nb c9) rfl
  · rw [if_neg c9]; exact jv_none rfl
def t0_X13_canMap : List (Nat × Instr × Nat) := [(0, .aload_n 0, 1), (1, .iconst 1, 1), (2, .iload_n 2, 1), (3, .invokevirtual 254, 3), (6, .ifCond .eq 43, 3), (9, .iload_n 2, 1), (10, .ifCond .eq 39, 3), (13, .iload 5, 2), (15, .iconst 1, 1), (16, .if_icmp .lt 33, 3), (19, .iload_n 3, 1), (20, .iload 5, 2), (22, .iadd, 1), (23, .bipush 100, 2), (25, .if_icmp .gt 24, 3), (28, .iload 4, 2), (30, .iload 5, 2), (32, .iadd, 1), (33, .bipush 100, 2), (35, .if_icmp .gt 14, 3), (38, .aload_n 0, 1), (39, .iconst 1, 1), (40, .iload_n 2, 1), (41, .iconst 3, 1), (42, .invokevirtual 217, 3), (45, .iconst 3, 1), (46, .if_icmp .ne 5, 3), (49, .iconst 0, 1), (50, .ireturn, 1), (51, .iconst 1, 1), (52, .istore 6, 2), (54, .iconst 0, 1), (55, .istore 7, 2), (57, .iload 7, 2), (59, .aload_n 0, 1), (60, .iconst 1, 1), (61, .iload_n 2, 1), (62, .iconst 3, 1), (63, .invokevirtual 217, 3), (66, .if_icmp .ge 83, 3), (69, .aload_n 0, 1), (70, .iload_n 2, 1), (71, .iload 7, 2), (73, .invokevirtual 224, 3), (76, .istore 8, 2), (78, .iload 6, 2), (80, .ifCond .eq 60, 3), (83, .iload_n 3, 1), (84, .aload_n 0, 1), (85, .getfield 37, 3), (88, .iload 8, 2), (90, .iaload, 1), (91, .iload 5, 2), (93, .aload_n 0, 1), (94, .getfield 37, 3), (97, .iload 8, 2), (99, .iconst 2, 1), (100, .iadd, 1), (101, .iaload, 1), (102, .invokestatic 258, 3), (105, .ifCond .eq 35, 3), (108, .iload 4, 2), (110, .aload_n 0, 1), (111, .getfield 37, 3), (114, .iload 8, 2), (116, .iconst 1, 1), (117, .iadd, 1), (118, .iaload, 1), (119, .iload 5, 2), (121, .aload_n 0, 1), (122, .getfield 37, 3), (125, .iload 8, 2), (127, .iconst 2, 1), (128, .iadd, 1), (129, .iaload, 1), (130, .invokestatic 258, 3), (133, .ifCond .eq 7, 3), (136, .iconst 1, 1), (137, .goto 4, 3), (140, .iconst 0, 1), (141, .istore 6, 2), (143, .iinc 7 1, 3), (146, .goto (-89), 3), (149, .aload_n 0, 1), (150, .iconst 1, 1), (151, .iload_n 2, 1), (152, .iconst 0, 1), (153, .invokevirtual 217, 3), (156, .istore 7, 2), (158, .iconst 0, 1), (159, .istore 8, 2), (161, .iload 8, 2), (163, .iload 5, 2), (165, .if_icmp .ge 37, 3), (168, .iload 6, 2), (170, .ifCond .eq 23, 3), (173, .aload_n 0, 1), (174, .iload 7, 2), (176, .iload 4, 2), (178, .iload 8, 2), (180, .iadd, 1), (181, .invokevirtual 261, 3), (184, .ldc 227, 2), (186, .if_icmp .eq 7, 3), (189, .iconst 1, 1), (190, .goto 4, 3), (193, .iconst 0, 1), (194, .istore 6, 2), (196, .iinc 8 1, 3), (199, .goto (-38), 3), (202, .iload 5, 2), (204, .iconst 1, 1), (205, .if_icmp .ne 42, 3), (208, .aload_n 0, 1), (209, .iload_n 1, 1), (210, .bipush 6, 2), (212, .invokevirtual 205, 3), (215, .aload_n 0, 1), (216, .iconst 1, 1), (217, .iload_n 2, 1), (218, .iconst 2, 1), (219, .invokevirtual 217, 3), (222, .if_icmp .ne 25, 3), (225, .aload_n 0, 1), (226, .iload 7, 2), (228, .aload_n 0, 1), (229, .iload_n 1, 1), (230, .bipush 6, 2), (232, .invokevirtual 205, 3), (235, .invokevirtual 264, 3), (238, .iload 4, 2), (240, .if_icmp .ne 7, 3), (243, .iconst 1, 1), (244, .goto 4, 3), (247, .iconst 0, 1), (248, .istore 8, 2), (250, .iload 6, 2), (252, .ifCond .eq 22, 3), (255, .aload_n 0, 1), (256, .iload_n 1, 1), (257, .iload 7, 2), (259, .invokevirtual 267, 3), (262, .ifCond .ne 8, 3), (265, .iload 8, 2), (267, .ifCond .eq 7, 3), (270, .iconst 1, 1), (271, .goto 4, 3), (274, .iconst 0, 1), (275, .ireturn, 1)]
theorem t_X13_canMap : jv_dec cX13_canMap t0_X13_canMap = true := by decide +kernel
def M_X13_canMap : jm := (yX13_canMap, cX13_canMap, 9, (some .boolean), 4, 93, [])
theorem lk_X13_254 : Cond.methodLink RX13 254 M_X13_isSpace.1 ∈ lw_tbl := (jv_at 1608 (by decide +kernel))
set_option maxRecDepth 20000 in
theorem me_X13_isSpace : jv_me M_X13_isSpace 2 := ⟨(jv_in7 (List.mem_of_getElem? (i := 11) rfl)), (jv_at 172 (by decide +kernel)), ⟨by decide, by decide⟩, by decide +kernel⟩
theorem lk_X13_258 : Cond.methodLink RX13 258 M_X13_areApart.1 ∈ lw_tbl := (jv_at 1616 (by decide +kernel))
set_option maxRecDepth 20000 in
theorem me_X13_areApart : jv_me M_X13_areApart 4 := ⟨(jv_in7 (List.mem_of_getElem? (i := 18) rfl)), (jv_at 172 (by decide +kernel)), ⟨by decide, by decide⟩, by decide +kernel⟩
theorem ms_X13_areApart : jv_ms M_X13_areApart := (jv_at 1617 (by decide +kernel))
theorem lk_X13_261 : Cond.methodLink RX13 261 M_X13_toRoot.1 ∈ lw_tbl := (jv_at 1619 (by decide +kernel))
set_option maxRecDepth 20000 in
theorem me_X13_toRoot : jv_me M_X13_toRoot 2 := ⟨(jv_in7 (List.mem_of_getElem? (i := 22) rfl)), (jv_at 172 (by decide +kernel)), ⟨by decide, by decide⟩, by decide +kernel⟩
theorem mv_X13_toRoot : jv_mv M_X13_toRoot := ⟨(jv_at 1621 (by decide +kernel)), (jv_at 122 (by decide +kernel))⟩
theorem lk_X13_267 : Cond.methodLink RX13 267 M_X13_isOver.1 ∈ lw_tbl := (jv_at 1636 (by decide +kernel))
set_option maxRecDepth 20000 in
theorem me_X13_isOver : jv_me M_X13_isOver 2 := ⟨(jv_in7 (List.mem_of_getElem? (i := 39) rfl)), (jv_at 172 (by decide +kernel)), ⟨by decide, by decide⟩, by decide +kernel⟩
theorem mv_X13_isOver : jv_mv M_X13_isOver := ⟨(jv_at 1638 (by decide +kernel)), (jv_at 126 (by decide +kernel))⟩
theorem lk_X13_264 : Cond.methodLink RX13 264 M_X13_fromRoot.1 ∈ lw_tbl := (jv_at 1628 (by decide +kernel))
set_option maxRecDepth 20000 in
theorem me_X13_fromRoot : jv_me M_X13_fromRoot 2 := ⟨(jv_in7 (List.mem_of_getElem? (i := 31) rfl)), (jv_at 172 (by decide +kernel)), ⟨by decide, by decide⟩, by decide +kernel⟩
theorem mv_X13_fromRoot : jv_mv M_X13_fromRoot := ⟨(jv_at 1630 (by decide +kernel)), (jv_at 124 (by decide +kernel))⟩
theorem mv_X13_isSpace : jv_mv M_X13_isSpace := ⟨(jv_at 1610 (by decide +kernel)), (jv_at 120 (by decide +kernel))⟩
def f_X13_canMap_h57 (K57 : Nat → Int32 → Int32 → Int32 → Int32 → Int32 → jh → Option (Int32 × jh)) (R57 : Nat → Int32 → Int32 → Int32 → Int32 → Int32 → Int32 → Int32 → jh → Option (Int32 × jh)) (x0 : Nat) (x1 : Int32) (x2 : Int32) (x3 : Int32) (x4 : Int32) (x5 : Int32) (x6 : Int32) (x7 : Int32) (h : jh) : Option (Int32 × jh) :=
  cV h x0 11 (f_X13_spaceOf x0 1 x2 3 h) fun v11 h12 =>
  (if v11 ≤ x7 then
  K57 x0 x1 x2 x4 x5 x6 h12
  else
  cV h12 x0 11 (f_X13_rangeAt x0 x2 x7 h12) fun v14 h15 =>
  (if x6 = 0 then
  R57 x0 x1 x2 x3 x4 x5 0 (x7 + 1) h15
  else
  gR h15 x0 11 2 fun v17 =>
  aI h15 v17 v14 fun v18 =>
  gR h15 x0 11 2 fun v19 =>
  aI h15 v19 (v14 + 2) fun v20 =>
  bd (f_X13_areApart x3 v18 x5 v20 h15) fun v21 h22 =>
  (if v21 = 0 then
  R57 x0 x1 x2 x3 x4 x5 0 (x7 + 1) h22
  else
  gR h22 x0 11 2 fun v24 =>
  aI h22 v24 (v14 + 1) fun v25 =>
  gR h22 x0 11 2 fun v26 =>
  aI h22 v26 (v14 + 2) fun v27 =>
  bd (f_X13_areApart x4 v25 x5 v27 h22) fun v28 h29 =>
  (if v28 = 0 then
  R57 x0 x1 x2 x3 x4 x5 0 (x7 + 1) h29
  else
  R57 x0 x1 x2 x3 x4 x5 1 (x7 + 1) h29))))
theorem o_f_X13_canMap_h57 {X : jx} {b0 : Nat × Nat} {K57 : Nat → Int32 → Int32 → Int32 → Int32 → Int32 → jh → Option (Int32 × jh)} (hK57 : ∀ (x0 : Nat) (x1 : Int32) (x2 : Int32) (x4 : Int32) (x5 : Int32) (x6 : Int32) (h : jh), jv_O X M_X13_canMap b0 jeI 149 [some (.ref (x0)), some (.int (x1)), some (.int (x2)), none, some (.int (x4)), some (.int (x5)), some (.int (x6)), none, none] [] h (K57 x0 x1 x2 x4 x5 x6 h)) : ∀ (x0 : Nat) (x1 : Int32) (x2 : Int32) (x3 : Int32) (x4 : Int32) (x5 : Int32) (x6 : Int32) (x7 : Int32) (h : jh), jv_O X M_X13_canMap b0 jeI 57 [some (.ref (x0)), some (.int (x1)), some (.int (x2)), some (.int (x3)), some (.int (x4)), some (.int (x5)), some (.int (x6)), some (.int (x7)), none] [] h (jlp8 (f_X13_canMap_h57 K57) jfu x0 x1 x2 x3 x4 x5 x6 x7 h) := by
  refine jlp8_ok (P := fun x0 x1 x2 x3 x4 x5 x6 x7 h o => jv_O X M_X13_canMap b0 jeI 57 [some (.ref (x0)), some (.int (x1)), some (.int (x2)), some (.int (x3)), some (.int (x4)), some (.int (x5)), some (.int (x6)), some (.int (x7)), none] [] h o) (fun R57 hR57 => ?_) (fun _ _ _ _ _ _ _ _ _  => jv_none rfl) jfu
  intro x0 x1 x2 x3 x4 x5 x6 x7 h
  unfold f_X13_canMap_h57
  refine jv_iload (jv_dk t_X13_canMap (k := 33) rfl) rfl ?_
  refine jv_aload_n (jv_dk t_X13_canMap (k := 34) rfl) rfl rfl (Or.inr ⟨_, rfl⟩) ?_
  refine jv_iconst (v := 1) (jv_dk t_X13_canMap (k := 35) rfl) (by decide) ?_
  refine jv_iload_n (jv_dk t_X13_canMap (k := 36) rfl) rfl rfl ?_
  refine jv_iconst (v := 3) (jv_dk t_X13_canMap (k := 37) rfl) (by decide) ?_
  refine jv_callV (en' := jeI) (pv := jpI) (As := [.int (1), .int (x2), .int (3)]) (S := [.int (x7)]) (jv_dk t_X13_canMap (k := 38) rfl) (fun _ => rfl) (Or.inl lk_X13_217) me_X13_spaceOf mv_X13_spaceOf ⟨by decide, by decide⟩ rfl rfl rfl (Nat.le_of_ble_eq_true rfl) (P_X13_spaceOf X x0 1 x2 3 h) (fun v11 h12 => ?_)
  show jv_O X M_X13_canMap _ jeI 66 [some (.ref (x0)), some (.int (x1)), some (.int (x2)), some (.int (x3)), some (.int (x4)), some (.int (x5)), some (.int (x6)), some (.int (x7)), none] [.int (v11), .int (x7)] h12 _
  refine jv_icmp_ge (tgt := 149) (jv_dk t_X13_canMap (k := 39) rfl) rfl (fun c13 => ?_) (fun c13 => ?_)
  · refine jv_le_row (jv_le_s (jv_le_s (jv_le_s (jv_le_n (jv_le_s (jv_le_s (jv_le_s (jv_le_n (jv_le_n (jv_le_nil)))))))))) ?_
    exact hK57 _ _ _ _ _ _ _ 
  · show jv_O _ _ _ _ 69 _ _ _ _
    refine jv_aload_n (jv_dk t_X13_canMap (k := 40) rfl) rfl rfl (Or.inr ⟨_, rfl⟩) ?_
    refine jv_iload_n (jv_dk t_X13_canMap (k := 41) rfl) rfl rfl ?_
    refine jv_iload (jv_dk t_X13_canMap (k := 42) rfl) rfl ?_
    refine jv_callV (en' := jeI) (pv := jpI) (As := [.int (x2), .int (x7)]) (S := []) (jv_dk t_X13_canMap (k := 43) rfl) (fun _ => rfl) (Or.inl lk_X13_224) me_X13_rangeAt mv_X13_rangeAt ⟨by decide, by decide⟩ rfl rfl rfl (Nat.le_of_ble_eq_true rfl) (P_X13_rangeAt X x0 x2 x7 h12) (fun v14 h15 => ?_)
    show jv_O X M_X13_canMap _ jeI 76 [some (.ref (x0)), some (.int (x1)), some (.int (x2)), some (.int (x3)), some (.int (x4)), some (.int (x5)), some (.int (x6)), some (.int (x7)), none] [.int (v14)] h15 _
    refine jv_istore (L' := [some (.ref (x0)), some (.int (x1)), some (.int (x2)), some (.int (x3)), some (.int (x4)), some (.int (x5)), some (.int (x6)), some (.int (x7)), some (.int (v14))]) (jv_dk t_X13_canMap (k := 44) rfl) (Nat.le_of_ble_eq_true rfl) rfl ?_
    refine jv_iload (jv_dk t_X13_canMap (k := 45) rfl) rfl ?_
    refine jv_if_eq (tgt := 140) (jv_dk t_X13_canMap (k := 46) rfl) rfl (fun c16 => ?_) (fun c16 => ?_)
    · refine jv_iconst (v := 0) (jv_dk t_X13_canMap (k := 79) rfl) (by decide) ?_
      refine jv_istore (L' := [some (.ref (x0)), some (.int (x1)), some (.int (x2)), some (.int (x3)), some (.int (x4)), some (.int (x5)), some (.int (0)), some (.int (x7)), some (.int (v14))]) (jv_dk t_X13_canMap (k := 80) rfl) (Nat.le_of_ble_eq_true rfl) rfl ?_
      refine jv_iinc (v := 1) (L' := [some (.ref (x0)), some (.int (x1)), some (.int (x2)), some (.int (x3)), some (.int (x4)), some (.int (x5)), some (.int (0)), some (.int (x7 + 1)), some (.int (v14))]) (jv_dk t_X13_canMap (k := 81) rfl) rfl (by decide) rfl ?_
      refine jv_goto (tgt := 57) (jv_dk t_X13_canMap (k := 82) rfl) rfl ?_
      refine jv_le_row (jv_le_s (jv_le_s (jv_le_s (jv_le_s (jv_le_s (jv_le_s (jv_le_s (jv_le_s (jv_le_n (jv_le_nil)))))))))) ?_
      exact hR57 _ _ _ _ _ _ _ _ _ 
    · show jv_O _ _ _ _ 83 _ _ _ _
      refine jv_iload_n (jv_dk t_X13_canMap (k := 47) rfl) rfl rfl ?_
      refine jv_aload_n (jv_dk t_X13_canMap (k := 48) rfl) rfl rfl (Or.inr ⟨_, rfl⟩) ?_
      refine jv_gR (jv_dk t_X13_canMap (k := 49) rfl) fl_X13_37 (fun v17 => ?_)
      refine jv_iload (jv_dk t_X13_canMap (k := 50) rfl) rfl ?_
      refine jv_iaload (jv_dk t_X13_canMap (k := 51) rfl) (fun v18 => ?_)
      refine jv_iload (jv_dk t_X13_canMap (k := 52) rfl) rfl ?_
      refine jv_aload_n (jv_dk t_X13_canMap (k := 53) rfl) rfl rfl (Or.inr ⟨_, rfl⟩) ?_
      refine jv_gR (jv_dk t_X13_canMap (k := 54) rfl) fl_X13_37 (fun v19 => ?_)
      refine jv_iload (jv_dk t_X13_canMap (k := 55) rfl) rfl ?_
      refine jv_iconst (v := 2) (jv_dk t_X13_canMap (k := 56) rfl) (by decide) ?_
      refine jv_iadd (jv_dk t_X13_canMap (k := 57) rfl) ?_
      refine jv_iaload (jv_dk t_X13_canMap (k := 58) rfl) (fun v20 => ?_)
      refine jv_callS (en' := jeI) (pv := jpI) (As := [.int (x3), .int (v18), .int (x5), .int (v20)]) (S := []) (jv_dk t_X13_canMap (k := 59) rfl) (fun _ => rfl) (Or.inl lk_X13_258) me_X13_areApart ms_X13_areApart ⟨by decide, by decide⟩ rfl rfl (Nat.le_of_ble_eq_true rfl) (P_X13_areApart X x3 v18 x5 v20 h15) (fun v21 h22 => ?_)
      show jv_O X M_X13_canMap _ jeI 105 [some (.ref (x0)), some (.int (x1)), some (.int (x2)), some (.int (x3)), some (.int (x4)), some (.int (x5)), some (.int (x6)), some (.int (x7)), some (.int (v14))] [.int (v21)] h22 _
      refine jv_if_eq (tgt := 140) (jv_dk t_X13_canMap (k := 60) rfl) rfl (fun c23 => ?_) (fun c23 => ?_)
      · refine jv_iconst (v := 0) (jv_dk t_X13_canMap (k := 79) rfl) (by decide) ?_
        refine jv_istore (L' := [some (.ref (x0)), some (.int (x1)), some (.int (x2)), some (.int (x3)), some (.int (x4)), some (.int (x5)), some (.int (0)), some (.int (x7)), some (.int (v14))]) (jv_dk t_X13_canMap (k := 80) rfl) (Nat.le_of_ble_eq_true rfl) rfl ?_
        refine jv_iinc (v := 1) (L' := [some (.ref (x0)), some (.int (x1)), some (.int (x2)), some (.int (x3)), some (.int (x4)), some (.int (x5)), some (.int (0)), some (.int (x7 + 1)), some (.int (v14))]) (jv_dk t_X13_canMap (k := 81) rfl) rfl (by decide) rfl ?_
        refine jv_goto (tgt := 57) (jv_dk t_X13_canMap (k := 82) rfl) rfl ?_
        refine jv_le_row (jv_le_s (jv_le_s (jv_le_s (jv_le_s (jv_le_s (jv_le_s (jv_le_s (jv_le_s (jv_le_n (jv_le_nil)))))))))) ?_
        exact hR57 _ _ _ _ _ _ _ _ _ 
      · show jv_O _ _ _ _ 108 _ _ _ _
        refine jv_iload (jv_dk t_X13_canMap (k := 61) rfl) rfl ?_
        refine jv_aload_n (jv_dk t_X13_canMap (k := 62) rfl) rfl rfl (Or.inr ⟨_, rfl⟩) ?_
        refine jv_gR (jv_dk t_X13_canMap (k := 63) rfl) fl_X13_37 (fun v24 => ?_)
        refine jv_iload (jv_dk t_X13_canMap (k := 64) rfl) rfl ?_
        refine jv_iconst (v := 1) (jv_dk t_X13_canMap (k := 65) rfl) (by decide) ?_
        refine jv_iadd (jv_dk t_X13_canMap (k := 66) rfl) ?_
        refine jv_iaload (jv_dk t_X13_canMap (k := 67) rfl) (fun v25 => ?_)
        refine jv_iload (jv_dk t_X13_canMap (k := 68) rfl) rfl ?_
        refine jv_aload_n (jv_dk t_X13_canMap (k := 69) rfl) rfl rfl (Or.inr ⟨_, rfl⟩) ?_
        refine jv_gR (jv_dk t_X13_canMap (k := 70) rfl) fl_X13_37 (fun v26 => ?_)
        refine jv_iload (jv_dk t_X13_canMap (k := 71) rfl) rfl ?_
        refine jv_iconst (v := 2) (jv_dk t_X13_canMap (k := 72) rfl) (by decide) ?_
        refine jv_iadd (jv_dk t_X13_canMap (k := 73) rfl) ?_
        refine jv_iaload (jv_dk t_X13_canMap (k := 74) rfl) (fun v27 => ?_)
        refine jv_callS (en' := jeI) (pv := jpI) (As := [.int (x4), .int (v25), .int (x5), .int (v27)]) (S := []) (jv_dk t_X13_canMap (k := 75) rfl) (fun _ => rfl) (Or.inl lk_X13_258) me_X13_areApart ms_X13_areApart ⟨by decide, by decide⟩ rfl rfl (Nat.le_of_ble_eq_true rfl) (P_X13_areApart X x4 v25 x5 v27 h22) (fun v28 h29 => ?_)
        show jv_O X M_X13_canMap _ jeI 133 [some (.ref (x0)), some (.int (x1)), some (.int (x2)), some (.int (x3)), some (.int (x4)), some (.int (x5)), some (.int (x6)), some (.int (x7)), some (.int (v14))] [.int (v28)] h29 _
        refine jv_if_eq (tgt := 140) (jv_dk t_X13_canMap (k := 76) rfl) rfl (fun c30 => ?_) (fun c30 => ?_)
        · refine jv_iconst (v := 0) (jv_dk t_X13_canMap (k := 79) rfl) (by decide) ?_
          refine jv_istore (L' := [some (.ref (x0)), some (.int (x1)), some (.int (x2)), some (.int (x3)), some (.int (x4)), some (.int (x5)), some (.int (0)), some (.int (x7)), some (.int (v14))]) (jv_dk t_X13_canMap (k := 80) rfl) (Nat.le_of_ble_eq_true rfl) rfl ?_
          refine jv_iinc (v := 1) (L' := [some (.ref (x0)), some (.int (x1)), some (.int (x2)), some (.int (x3)), some (.int (x4)), some (.int (x5)), some (.int (0)), some (.int (x7 + 1)), some (.int (v14))]) (jv_dk t_X13_canMap (k := 81) rfl) rfl (by decide) rfl ?_
          refine jv_goto (tgt := 57) (jv_dk t_X13_canMap (k := 82) rfl) rfl ?_
          refine jv_le_row (jv_le_s (jv_le_s (jv_le_s (jv_le_s (jv_le_s (jv_le_s (jv_le_s (jv_le_s (jv_le_n (jv_le_nil)))))))))) ?_
          exact hR57 _ _ _ _ _ _ _ _ _ 
        · show jv_O _ _ _ _ 136 _ _ _ _
          refine jv_iconst (v := 1) (jv_dk t_X13_canMap (k := 77) rfl) (by decide) ?_
          refine jv_goto (tgt := 141) (jv_dk t_X13_canMap (k := 78) rfl) rfl ?_
          refine jv_istore (L' := [some (.ref (x0)), some (.int (x1)), some (.int (x2)), some (.int (x3)), some (.int (x4)), some (.int (x5)), some (.int (1)), some (.int (x7)), some (.int (v14))]) (jv_dk t_X13_canMap (k := 80) rfl) (Nat.le_of_ble_eq_true rfl) rfl ?_
          refine jv_iinc (v := 1) (L' := [some (.ref (x0)), some (.int (x1)), some (.int (x2)), some (.int (x3)), some (.int (x4)), some (.int (x5)), some (.int (1)), some (.int (x7 + 1)), some (.int (v14))]) (jv_dk t_X13_canMap (k := 81) rfl) rfl (by decide) rfl ?_
          refine jv_goto (tgt := 57) (jv_dk t_X13_canMap (k := 82) rfl) rfl ?_
          refine jv_le_row (jv_le_s (jv_le_s (jv_le_s (jv_le_s (jv_le_s (jv_le_s (jv_le_s (jv_le_s (jv_le_n (jv_le_nil)))))))))) ?_
          exact hR57 _ _ _ _ _ _ _ _ _ 
def f_X13_canMap_h161 (K161 : Nat → Int32 → Int32 → Int32 → Int32 → Int32 → Int32 → jh → Option (Int32 × jh)) (R161 : Nat → Int32 → Int32 → Int32 → Int32 → Int32 → Int32 → Int32 → jh → Option (Int32 × jh)) (x0 : Nat) (x1 : Int32) (x2 : Int32) (x4 : Int32) (x5 : Int32) (x6 : Int32) (x7 : Int32) (x8 : Int32) (h : jh) : Option (Int32 × jh) :=
  (if x5 ≤ x8 then
  K161 x0 x1 x2 x4 x5 x6 x7 h
  else
  (if x6 = 0 then
  R161 x0 x1 x2 x4 x5 0 x7 (x8 + 1) h
  else
  cV h x0 11 (f_X13_toRoot x0 x7 (x4 + x8) h) fun v42 h43 =>
  (if v42 = 65534 then
  R161 x0 x1 x2 x4 x5 0 x7 (x8 + 1) h43
  else
  R161 x0 x1 x2 x4 x5 1 x7 (x8 + 1) h43)))
theorem o_f_X13_canMap_h161 {X : jx} {b0 : Nat × Nat} {K161 : Nat → Int32 → Int32 → Int32 → Int32 → Int32 → Int32 → jh → Option (Int32 × jh)} (hK161 : ∀ (x0 : Nat) (x1 : Int32) (x2 : Int32) (x4 : Int32) (x5 : Int32) (x6 : Int32) (x7 : Int32) (h : jh), jv_O X M_X13_canMap b0 jeI 202 [some (.ref (x0)), some (.int (x1)), some (.int (x2)), none, some (.int (x4)), some (.int (x5)), some (.int (x6)), some (.int (x7)), none] [] h (K161 x0 x1 x2 x4 x5 x6 x7 h)) : ∀ (x0 : Nat) (x1 : Int32) (x2 : Int32) (x4 : Int32) (x5 : Int32) (x6 : Int32) (x7 : Int32) (x8 : Int32) (h : jh), jv_O X M_X13_canMap b0 jeI 161 [some (.ref (x0)), some (.int (x1)), some (.int (x2)), none, some (.int (x4)), some (.int (x5)), some (.int (x6)), some (.int (x7)), some (.int (x8))] [] h (jlp8 (f_X13_canMap_h161 K161) jfu x0 x1 x2 x4 x5 x6 x7 x8 h) := by
  refine jlp8_ok (P := fun x0 x1 x2 x4 x5 x6 x7 x8 h o => jv_O X M_X13_canMap b0 jeI 161 [some (.ref (x0)), some (.int (x1)), some (.int (x2)), none, some (.int (x4)), some (.int (x5)), some (.int (x6)), some (.int (x7)), some (.int (x8))] [] h o) (fun R161 hR161 => ?_) (fun _ _ _ _ _ _ _ _ _  => jv_none rfl) jfu
  intro x0 x1 x2 x4 x5 x6 x7 x8 h
  unfold f_X13_canMap_h161
  refine jv_iload (jv_dk t_X13_canMap (k := 91) rfl) rfl ?_
  refine jv_iload (jv_dk t_X13_canMap (k := 92) rfl) rfl ?_
  refine jv_icmp_ge (tgt := 202) (jv_dk t_X13_canMap (k := 93) rfl) rfl (fun c40 => ?_) (fun c40 => ?_)
  · refine jv_le_row (jv_le_s (jv_le_s (jv_le_s (jv_le_n (jv_le_s (jv_le_s (jv_le_s (jv_le_s (jv_le_n (jv_le_nil)))))))))) ?_
    exact hK161 _ _ _ _ _ _ _ _ 
  · show jv_O _ _ _ _ 168 _ _ _ _
    refine jv_iload (jv_dk t_X13_canMap (k := 94) rfl) rfl ?_
    refine jv_if_eq (tgt := 193) (jv_dk t_X13_canMap (k := 95) rfl) rfl (fun c41 => ?_) (fun c41 => ?_)
    · refine jv_iconst (v := 0) (jv_dk t_X13_canMap (k := 106) rfl) (by decide) ?_
      refine jv_istore (L' := [some (.ref (x0)), some (.int (x1)), some (.int (x2)), none, some (.int (x4)), some (.int (x5)), some (.int (0)), some (.int (x7)), some (.int (x8))]) (jv_dk t_X13_canMap (k := 107) rfl) (Nat.le_of_ble_eq_true rfl) rfl ?_
      refine jv_iinc (v := 1) (L' := [some (.ref (x0)), some (.int (x1)), some (.int (x2)), none, some (.int (x4)), some (.int (x5)), some (.int (0)), some (.int (x7)), some (.int (x8 + 1))]) (jv_dk t_X13_canMap (k := 108) rfl) rfl (by decide) rfl ?_
      refine jv_goto (tgt := 161) (jv_dk t_X13_canMap (k := 109) rfl) rfl ?_
      exact hR161 _ _ _ _ _ _ _ _ _ 
    · show jv_O _ _ _ _ 173 _ _ _ _
      refine jv_aload_n (jv_dk t_X13_canMap (k := 96) rfl) rfl rfl (Or.inr ⟨_, rfl⟩) ?_
      refine jv_iload (jv_dk t_X13_canMap (k := 97) rfl) rfl ?_
      refine jv_iload (jv_dk t_X13_canMap (k := 98) rfl) rfl ?_
      refine jv_iload (jv_dk t_X13_canMap (k := 99) rfl) rfl ?_
      refine jv_iadd (jv_dk t_X13_canMap (k := 100) rfl) ?_
      refine jv_callV (en' := jeI) (pv := jpI) (As := [.int (x7), .int (x4 + x8)]) (S := []) (jv_dk t_X13_canMap (k := 101) rfl) (fun _ => rfl) (Or.inl lk_X13_261) me_X13_toRoot mv_X13_toRoot ⟨by decide, by decide⟩ rfl rfl rfl (Nat.le_of_ble_eq_true rfl) (P_X13_toRoot X x0 x7 (x4 + x8) h) (fun v42 h43 => ?_)
      show jv_O X M_X13_canMap _ jeI 184 [some (.ref (x0)), some (.int (x1)), some (.int (x2)), none, some (.int (x4)), some (.int (x5)), some (.int (x6)), some (.int (x7)), some (.int (x8))] [.int (v42)] h43 _
      refine jv_ldc (jv_dk t_X13_canMap (k := 102) rfl) cn_X13_227 ?_
      refine jv_icmp_eq (tgt := 193) (jv_dk t_X13_canMap (k := 103) rfl) rfl (fun c44 => ?_) (fun c44 => ?_)
      · refine jv_iconst (v := 0) (jv_dk t_X13_canMap (k := 106) rfl) (by decide) ?_
        refine jv_istore (L' := [some (.ref (x0)), some (.int (x1)), some (.int (x2)), none, some (.int (x4)), some (.int (x5)), some (.int (0)), some (.int (x7)), some (.int (x8))]) (jv_dk t_X13_canMap (k := 107) rfl) (Nat.le_of_ble_eq_true rfl) rfl ?_
        refine jv_iinc (v := 1) (L' := [some (.ref (x0)), some (.int (x1)), some (.int (x2)), none, some (.int (x4)), some (.int (x5)), some (.int (0)), some (.int (x7)), some (.int (x8 + 1))]) (jv_dk t_X13_canMap (k := 108) rfl) rfl (by decide) rfl ?_
        refine jv_goto (tgt := 161) (jv_dk t_X13_canMap (k := 109) rfl) rfl ?_
        exact hR161 _ _ _ _ _ _ _ _ _ 
      · show jv_O _ _ _ _ 189 _ _ _ _
        refine jv_iconst (v := 1) (jv_dk t_X13_canMap (k := 104) rfl) (by decide) ?_
        refine jv_goto (tgt := 194) (jv_dk t_X13_canMap (k := 105) rfl) rfl ?_
        refine jv_istore (L' := [some (.ref (x0)), some (.int (x1)), some (.int (x2)), none, some (.int (x4)), some (.int (x5)), some (.int (1)), some (.int (x7)), some (.int (x8))]) (jv_dk t_X13_canMap (k := 107) rfl) (Nat.le_of_ble_eq_true rfl) rfl ?_
        refine jv_iinc (v := 1) (L' := [some (.ref (x0)), some (.int (x1)), some (.int (x2)), none, some (.int (x4)), some (.int (x5)), some (.int (1)), some (.int (x7)), some (.int (x8 + 1))]) (jv_dk t_X13_canMap (k := 108) rfl) rfl (by decide) rfl ?_
        refine jv_goto (tgt := 161) (jv_dk t_X13_canMap (k := 109) rfl) rfl ?_
        exact hR161 _ _ _ _ _ _ _ _ _ 
def f_X13_canMap_b248 (x0 : Nat) (x1 : Int32) (x6 : Int32) (x7 : Int32) (s0 : Int32) (h : jh) : Option (Int32 × jh) :=
  (if x6 = 0 then
  some (0, h)
  else
  cV h x0 11 (f_X13_isOver x0 x1 x7 h) fun v55 h56 =>
  (if ¬ v55 = 0 then
  some (1, h56)
  else
  (if s0 = 0 then
  some (0, h56)
  else
  some (1, h56))))
theorem o_f_X13_canMap_b248 {X : jx} {b0 : Nat × Nat} (x0 : Nat) (x1 : Int32) (x6 : Int32) (x7 : Int32) (s0 : Int32) (h : jh) : jv_O X M_X13_canMap b0 jeI 248 [some (.ref (x0)), some (.int (x1)), none, none, none, none, some (.int (x6)), some (.int (x7)), none] [.int (s0)] h (f_X13_canMap_b248 x0 x1 x6 x7 s0 h) := by
  unfold f_X13_canMap_b248
  refine jv_istore (L' := [some (.ref (x0)), some (.int (x1)), none, none, none, none, some (.int (x6)), some (.int (x7)), some (.int (s0))]) (jv_dk t_X13_canMap (k := 135) rfl) (Nat.le_of_ble_eq_true rfl) rfl ?_
  refine jv_iload (jv_dk t_X13_canMap (k := 136) rfl) rfl ?_
  refine jv_if_eq (tgt := 274) (jv_dk t_X13_canMap (k := 137) rfl) rfl (fun c54 => ?_) (fun c54 => ?_)
  · refine jv_iconst (v := 0) (jv_dk t_X13_canMap (k := 147) rfl) (by decide) ?_
    exact jv_iret (ty := .boolean) (jv_dk t_X13_canMap (k := 148) rfl) rfl rfl rfl
  · show jv_O _ _ _ _ 255 _ _ _ _
    refine jv_aload_n (jv_dk t_X13_canMap (k := 138) rfl) rfl rfl (Or.inr ⟨_, rfl⟩) ?_
    refine jv_iload_n (jv_dk t_X13_canMap (k := 139) rfl) rfl rfl ?_
    refine jv_iload (jv_dk t_X13_canMap (k := 140) rfl) rfl ?_
    refine jv_callV (en' := jeI) (pv := jpI) (As := [.int (x1), .int (x7)]) (S := []) (jv_dk t_X13_canMap (k := 141) rfl) (fun _ => rfl) (Or.inl lk_X13_267) me_X13_isOver mv_X13_isOver ⟨by decide, by decide⟩ rfl rfl rfl (Nat.le_of_ble_eq_true rfl) (P_X13_isOver X x0 x1 x7 h) (fun v55 h56 => ?_)
    show jv_O X M_X13_canMap _ jeI 262 [some (.ref (x0)), some (.int (x1)), none, none, none, none, some (.int (x6)), some (.int (x7)), some (.int (s0))] [.int (v55)] h56 _
    refine jv_if_ne (tgt := 270) (jv_dk t_X13_canMap (k := 142) rfl) rfl (fun c57 => ?_) (fun c57 => ?_)
    · refine jv_iconst (v := 1) (jv_dk t_X13_canMap (k := 145) rfl) (by decide) ?_
      refine jv_goto (tgt := 275) (jv_dk t_X13_canMap (k := 146) rfl) rfl ?_
      exact jv_iret (ty := .boolean) (jv_dk t_X13_canMap (k := 148) rfl) rfl rfl rfl
    · show jv_O _ _ _ _ 265 _ _ _ _
      refine jv_iload (jv_dk t_X13_canMap (k := 143) rfl) rfl ?_
      refine jv_if_eq (tgt := 274) (jv_dk t_X13_canMap (k := 144) rfl) rfl (fun c58 => ?_) (fun c58 => ?_)
      · refine jv_iconst (v := 0) (jv_dk t_X13_canMap (k := 147) rfl) (by decide) ?_
        exact jv_iret (ty := .boolean) (jv_dk t_X13_canMap (k := 148) rfl) rfl rfl rfl
      · show jv_O _ _ _ _ 270 _ _ _ _
        refine jv_iconst (v := 1) (jv_dk t_X13_canMap (k := 145) rfl) (by decide) ?_
        refine jv_goto (tgt := 275) (jv_dk t_X13_canMap (k := 146) rfl) rfl ?_
        exact jv_iret (ty := .boolean) (jv_dk t_X13_canMap (k := 148) rfl) rfl rfl rfl
def f_X13_canMap (a0 : Nat) (a1 : Int32) (a2 : Int32) (a3 : Int32) (a4 : Int32) (a5 : Int32) (h : jh) : Option (Int32 × jh) :=
  cV h a0 11 (f_X13_isSpace a0 1 a2 h) fun v1 h2 =>
  (if v1 = 0 then
  some (0, h2)
  else
  (if a2 = 0 then
  some (0, h2)
  else
  (if a5 < 1 then
  some (0, h2)
  else
  (if 100 < (a3 + a5) then
  some (0, h2)
  else
  (if 100 < (a4 + a5) then
  some (0, h2)
  else
  cV h2 a0 11 (f_X13_spaceOf a0 1 a2 3 h2) fun v8 h9 =>
  (if ¬ v8 = 3 then
  jlp8 (f_X13_canMap_h57 (fun y32 y33 y34 y35 y36 y37 h31 =>
  cV h31 y32 11 (f_X13_spaceOf y32 1 y34 0 h31) fun v38 h39 =>
  jlp8 (f_X13_canMap_h161 (fun y46 y47 y48 y49 y50 y51 y52 h45 =>
  (if ¬ y50 = 1 then
  f_X13_canMap_b248 y46 y47 y51 y52 0 h45
  else
  cV h45 y46 11 (f_X13_of y46 y47 6 h45) fun v59 h60 =>
  cV h60 y46 11 (f_X13_spaceOf y46 1 y48 2 h60) fun v61 h62 =>
  (if ¬ v59 = v61 then
  f_X13_canMap_b248 y46 y47 y51 y52 0 h62
  else
  cV h62 y46 11 (f_X13_of y46 y47 6 h62) fun v64 h65 =>
  cV h65 y46 11 (f_X13_fromRoot y46 y52 v64 h65) fun v66 h67 =>
  (if ¬ v66 = y49 then
  f_X13_canMap_b248 y46 y47 y51 y52 0 h67
  else
  f_X13_canMap_b248 y46 y47 y51 y52 1 h67))))) jfu y32 y33 y34 y35 y36 y37 v38 0 h39)) jfu a0 a1 a2 a3 a4 a5 1 0 h9
  else
  some (0, h9)))))))
theorem P_X13_canMap (X : jx) (a0 : Nat) (a1 : Int32) (a2 : Int32) (a3 : Int32) (a4 : Int32) (a5 : Int32) (h : jh) : jv_P X M_X13_canMap jeI [.ref (a0), .int (a1), .int (a2), .int (a3), .int (a4), .int (a5)] h (f_X13_canMap a0 a1 a2 a3 a4 a5 h) := by
  refine jv_P.of (by decide) rfl (by simp [Value.category]) (Nat.le_of_ble_eq_true rfl) ?_
  show jv_O X M_X13_canMap (h.1, h.2.1) jeI 0 [some (.ref (a0)), some (.int (a1)), some (.int (a2)), some (.int (a3)), some (.int (a4)), some (.int (a5)), none, none, none] [] h (f_X13_canMap a0 a1 a2 a3 a4 a5 h)
  unfold f_X13_canMap
  refine jv_aload_n (jv_dk t_X13_canMap (k := 0) rfl) rfl rfl (Or.inr ⟨_, rfl⟩) ?_
  refine jv_iconst (v := 1) (jv_dk t_X13_canMap (k := 1) rfl) (by decide) ?_
  refine jv_iload_n (jv_dk t_X13_canMap (k := 2) rfl) rfl rfl ?_
  refine jv_callV (en' := jeI) (pv := jpI) (As := [.int (1), .int (a2)]) (S := []) (jv_dk t_X13_canMap (k := 3) rfl) (fun _ => rfl) (Or.inl lk_X13_254) me_X13_isSpace mv_X13_isSpace ⟨by decide, by decide⟩ rfl rfl rfl (Nat.le_of_ble_eq_true rfl) (P_X13_isSpace X a0 1 a2 h) (fun v1 h2 => ?_)
  show jv_O X M_X13_canMap _ jeI 6 [some (.ref (a0)), some (.int (a1)), some (.int (a2)), some (.int (a3)), some (.int (a4)), some (.int (a5)), none, none, none] [.int (v1)] h2 _
  refine jv_if_eq (tgt := 49) (jv_dk t_X13_canMap (k := 4) rfl) rfl (fun c3 => ?_) (fun c3 => ?_)
  · refine jv_iconst (v := 0) (jv_dk t_X13_canMap (k := 27) rfl) (by decide) ?_
    exact jv_iret (ty := .boolean) (jv_dk t_X13_canMap (k := 28) rfl) rfl rfl rfl
  · show jv_O _ _ _ _ 9 _ _ _ _
    refine jv_iload_n (jv_dk t_X13_canMap (k := 5) rfl) rfl rfl ?_
    refine jv_if_eq (tgt := 49) (jv_dk t_X13_canMap (k := 6) rfl) rfl (fun c4 => ?_) (fun c4 => ?_)
    · refine jv_iconst (v := 0) (jv_dk t_X13_canMap (k := 27) rfl) (by decide) ?_
      exact jv_iret (ty := .boolean) (jv_dk t_X13_canMap (k := 28) rfl) rfl rfl rfl
    · show jv_O _ _ _ _ 13 _ _ _ _
      refine jv_iload (jv_dk t_X13_canMap (k := 7) rfl) rfl ?_
      refine jv_iconst (v := 1) (jv_dk t_X13_canMap (k := 8) rfl) (by decide) ?_
      refine jv_icmp_lt (tgt := 49) (jv_dk t_X13_canMap (k := 9) rfl) rfl (fun c5 => ?_) (fun c5 => ?_)
      · refine jv_iconst (v := 0) (jv_dk t_X13_canMap (k := 27) rfl) (by decide) ?_
        exact jv_iret (ty := .boolean) (jv_dk t_X13_canMap (k := 28) rfl) rfl rfl rfl
      · show jv_O _ _ _ _ 19 _ _ _ _
        refine jv_iload_n (jv_dk t_X13_canMap (k := 10) rfl) rfl rfl ?_
        refine jv_iload (jv_dk t_X13_canMap (k := 11) rfl) rfl ?_
        refine jv_iadd (jv_dk t_X13_canMap (k := 12) rfl) ?_
        refine jv_bipush (v := 100) (jv_dk t_X13_canMap (k := 13) rfl) (by decide) ?_
        refine jv_icmp_gt (tgt := 49) (jv_dk t_X13_canMap (k := 14) rfl) rfl (fun c6 => ?_) (fun c6 => ?_)
        · refine jv_iconst (v := 0) (jv_dk t_X13_canMap (k := 27) rfl) (by decide) ?_
          exact jv_iret (ty := .boolean) (jv_dk t_X13_canMap (k := 28) rfl) rfl rfl rfl
        · show jv_O _ _ _ _ 28 _ _ _ _
          refine jv_iload (jv_dk t_X13_canMap (k := 15) rfl) rfl ?_
          refine jv_iload (jv_dk t_X13_canMap (k := 16) rfl) rfl ?_
          refine jv_iadd (jv_dk t_X13_canMap (k := 17) rfl) ?_
          refine jv_bipush (v := 100) (jv_dk t_X13_canMap (k := 18) rfl) (by decide) ?_
          refine jv_icmp_gt (tgt := 49) (jv_dk t_X13_canMap (k := 19) rfl) rfl (fun c7 => ?_) (fun c7 => ?_)
          · refine jv_iconst (v := 0) (jv_dk t_X13_canMap (k := 27) rfl) (by decide) ?_
            exact jv_iret (ty := .boolean) (jv_dk t_X13_canMap (k := 28) rfl) rfl rfl rfl
          · show jv_O _ _ _ _ 38 _ _ _ _
            refine jv_aload_n (jv_dk t_X13_canMap (k := 20) rfl) rfl rfl (Or.inr ⟨_, rfl⟩) ?_
            refine jv_iconst (v := 1) (jv_dk t_X13_canMap (k := 21) rfl) (by decide) ?_
            refine jv_iload_n (jv_dk t_X13_canMap (k := 22) rfl) rfl rfl ?_
            refine jv_iconst (v := 3) (jv_dk t_X13_canMap (k := 23) rfl) (by decide) ?_
            refine jv_callV (en' := jeI) (pv := jpI) (As := [.int (1), .int (a2), .int (3)]) (S := []) (jv_dk t_X13_canMap (k := 24) rfl) (fun _ => rfl) (Or.inl lk_X13_217) me_X13_spaceOf mv_X13_spaceOf ⟨by decide, by decide⟩ rfl rfl rfl (Nat.le_of_ble_eq_true rfl) (P_X13_spaceOf X a0 1 a2 3 h2) (fun v8 h9 => ?_)
            show jv_O X M_X13_canMap _ jeI 45 [some (.ref (a0)), some (.int (a1)), some (.int (a2)), some (.int (a3)), some (.int (a4)), some (.int (a5)), none, none, none] [.int (v8)] h9 _
            refine jv_iconst (v := 3) (jv_dk t_X13_canMap (k := 25) rfl) (by decide) ?_
            refine jv_icmp_ne (tgt := 51) (jv_dk t_X13_canMap (k := 26) rfl) rfl (fun c10 => ?_) (fun c10 => ?_)
            · refine jv_iconst (v := 1) (jv_dk t_X13_canMap (k := 29) rfl) (by decide) ?_
              refine jv_istore (L' := [some (.ref (a0)), some (.int (a1)), some (.int (a2)), some (.int (a3)), some (.int (a4)), some (.int (a5)), some (.int (1)), none, none]) (jv_dk t_X13_canMap (k := 30) rfl) (Nat.le_of_ble_eq_true rfl) rfl ?_
              refine jv_iconst (v := 0) (jv_dk t_X13_canMap (k := 31) rfl) (by decide) ?_
              refine jv_istore (L' := [some (.ref (a0)), some (.int (a1)), some (.int (a2)), some (.int (a3)), some (.int (a4)), some (.int (a5)), some (.int (1)), some (.int (0)), none]) (jv_dk t_X13_canMap (k := 32) rfl) (Nat.le_of_ble_eq_true rfl) rfl ?_
              refine o_f_X13_canMap_h57 (fun y32 y33 y34 y35 y36 y37 h31 => ?_) _ _ _ _ _ _ _ _ _ 
              show jv_O X M_X13_canMap _ jeI 149 [some (.ref (y32)), some (.int (y33)), some (.int (y34)), none, some (.int (y35)), some (.int (y36)), some (.int (y37)), none, none] [] h31 _
              refine jv_aload_n (jv_dk t_X13_canMap (k := 83) rfl) rfl rfl (Or.inr ⟨_, rfl⟩) ?_
              refine jv_iconst (v := 1) (jv_dk t_X13_canMap (k := 84) rfl) (by decide) ?_
              refine jv_iload_n (jv_dk t_X13_canMap (k := 85) rfl) rfl rfl ?_
              refine jv_iconst (v := 0) (jv_dk t_X13_canMap (k := 86) rfl) (by decide) ?_
              refine jv_callV (en' := jeI) (pv := jpI) (As := [.int (1), .int (y34), .int (0)]) (S := []) (jv_dk t_X13_canMap (k := 87) rfl) (fun _ => rfl) (Or.inl lk_X13_217) me_X13_spaceOf mv_X13_spaceOf ⟨by decide, by decide⟩ rfl rfl rfl (Nat.le_of_ble_eq_true rfl) (P_X13_spaceOf X y32 1 y34 0 h31) (fun v38 h39 => ?_)
              show jv_O X M_X13_canMap _ jeI 156 [some (.ref (y32)), some (.int (y33)), some (.int (y34)), none, some (.int (y35)), some (.int (y36)), some (.int (y37)), none, none] [.int (v38)] h39 _
              refine jv_istore (L' := [some (.ref (y32)), some (.int (y33)), some (.int (y34)), none, some (.int (y35)), some (.int (y36)), some (.int (y37)), some (.int (v38)), none]) (jv_dk t_X13_canMap (k := 88) rfl) (Nat.le_of_ble_eq_true rfl) rfl ?_
              refine jv_iconst (v := 0) (jv_dk t_X13_canMap (k := 89) rfl) (by decide) ?_
              refine jv_istore (L' := [some (.ref (y32)), some (.int (y33)), some (.int (y34)), none, some (.int (y35)), some (.int (y36)), some (.int (y37)), some (.int (v38)), some (.int (0))]) (jv_dk t_X13_canMap (k := 90) rfl) (Nat.le_of_ble_eq_true rfl) rfl ?_
              refine o_f_X13_canMap_h161 (fun y46 y47 y48 y49 y50 y51 y52 h45 => ?_) _ _ _ _ _ _ _ _ _ 
              show jv_O X M_X13_canMap _ jeI 202 [some (.ref (y46)), some (.int (y47)), some (.int (y48)), none, some (.int (y49)), some (.int (y50)), some (.int (y51)), some (.int (y52)), none] [] h45 _
              refine jv_iload (jv_dk t_X13_canMap (k := 110) rfl) rfl ?_
              refine jv_iconst (v := 1) (jv_dk t_X13_canMap (k := 111) rfl) (by decide) ?_
              refine jv_icmp_ne (tgt := 247) (jv_dk t_X13_canMap (k := 112) rfl) rfl (fun c53 => ?_) (fun c53 => ?_)
              · refine jv_iconst (v := 0) (jv_dk t_X13_canMap (k := 134) rfl) (by decide) ?_
                refine jv_le_row (jv_le_s (jv_le_s (jv_le_n (jv_le_n (jv_le_n (jv_le_n (jv_le_s (jv_le_s (jv_le_n (jv_le_nil)))))))))) ?_
                exact o_f_X13_canMap_b248 _ _ _ _ _ _ 
              · show jv_O _ _ _ _ 208 _ _ _ _
                refine jv_aload_n (jv_dk t_X13_canMap (k := 113) rfl) rfl rfl (Or.inr ⟨_, rfl⟩) ?_
                refine jv_iload_n (jv_dk t_X13_canMap (k := 114) rfl) rfl rfl ?_
                refine jv_bipush (v := 6) (jv_dk t_X13_canMap (k := 115) rfl) (by decide) ?_
                refine jv_callV (en' := jeI) (pv := jpI) (As := [.int (y47), .int (6)]) (S := []) (jv_dk t_X13_canMap (k := 116) rfl) (fun _ => rfl) (Or.inl lk_X13_205) me_X13_of mv_X13_of ⟨by decide, by decide⟩ rfl rfl rfl (Nat.le_of_ble_eq_true rfl) (P_X13_of X y46 y47 6 h45) (fun v59 h60 => ?_)
                show jv_O X M_X13_canMap _ jeI 215 [some (.ref (y46)), some (.int (y47)), some (.int (y48)), none, some (.int (y49)), some (.int (y50)), some (.int (y51)), some (.int (y52)), none] [.int (v59)] h60 _
                refine jv_aload_n (jv_dk t_X13_canMap (k := 117) rfl) rfl rfl (Or.inr ⟨_, rfl⟩) ?_
                refine jv_iconst (v := 1) (jv_dk t_X13_canMap (k := 118) rfl) (by decide) ?_
                refine jv_iload_n (jv_dk t_X13_canMap (k := 119) rfl) rfl rfl ?_
                refine jv_iconst (v := 2) (jv_dk t_X13_canMap (k := 120) rfl) (by decide) ?_
                refine jv_callV (en' := jeI) (pv := jpI) (As := [.int (1), .int (y48), .int (2)]) (S := [.int (v59)]) (jv_dk t_X13_canMap (k := 121) rfl) (fun _ => rfl) (Or.inl lk_X13_217) me_X13_spaceOf mv_X13_spaceOf ⟨by decide, by decide⟩ rfl rfl rfl (Nat.le_of_ble_eq_true rfl) (P_X13_spaceOf X y46 1 y48 2 h60) (fun v61 h62 => ?_)
                show jv_O X M_X13_canMap _ jeI 222 [some (.ref (y46)), some (.int (y47)), some (.int (y48)), none, some (.int (y49)), some (.int (y50)), some (.int (y51)), some (.int (y52)), none] [.int (v61), .int (v59)] h62 _
                refine jv_icmp_ne (tgt := 247) (jv_dk t_X13_canMap (k := 122) rfl) rfl (fun c63 => ?_) (fun c63 => ?_)
                · refine jv_iconst (v := 0) (jv_dk t_X13_canMap (k := 134) rfl) (by decide) ?_
                  refine jv_le_row (jv_le_s (jv_le_s (jv_le_n (jv_le_n (jv_le_n (jv_le_n (jv_le_s (jv_le_s (jv_le_n (jv_le_nil)))))))))) ?_
                  exact o_f_X13_canMap_b248 _ _ _ _ _ _ 
                · show jv_O _ _ _ _ 225 _ _ _ _
                  refine jv_aload_n (jv_dk t_X13_canMap (k := 123) rfl) rfl rfl (Or.inr ⟨_, rfl⟩) ?_
                  refine jv_iload (jv_dk t_X13_canMap (k := 124) rfl) rfl ?_
                  refine jv_aload_n (jv_dk t_X13_canMap (k := 125) rfl) rfl rfl (Or.inr ⟨_, rfl⟩) ?_
                  refine jv_iload_n (jv_dk t_X13_canMap (k := 126) rfl) rfl rfl ?_
                  refine jv_bipush (v := 6) (jv_dk t_X13_canMap (k := 127) rfl) (by decide) ?_
                  refine jv_callV (en' := jeI) (pv := jpI) (As := [.int (y47), .int (6)]) (S := [.int (y52), .ref (y46)]) (jv_dk t_X13_canMap (k := 128) rfl) (fun _ => rfl) (Or.inl lk_X13_205) me_X13_of mv_X13_of ⟨by decide, by decide⟩ rfl rfl rfl (Nat.le_of_ble_eq_true rfl) (P_X13_of X y46 y47 6 h62) (fun v64 h65 => ?_)
                  show jv_O X M_X13_canMap _ jeI 235 [some (.ref (y46)), some (.int (y47)), some (.int (y48)), none, some (.int (y49)), some (.int (y50)), some (.int (y51)), some (.int (y52)), none] [.int (v64), .int (y52), .ref (y46)] h65 _
                  refine jv_callV (en' := jeI) (pv := jpI) (As := [.int (y52), .int (v64)]) (S := []) (jv_dk t_X13_canMap (k := 129) rfl) (fun _ => rfl) (Or.inl lk_X13_264) me_X13_fromRoot mv_X13_fromRoot ⟨by decide, by decide⟩ rfl rfl rfl (Nat.le_of_ble_eq_true rfl) (P_X13_fromRoot X y46 y52 v64 h65) (fun v66 h67 => ?_)
                  show jv_O X M_X13_canMap _ jeI 238 [some (.ref (y46)), some (.int (y47)), some (.int (y48)), none, some (.int (y49)), some (.int (y50)), some (.int (y51)), some (.int (y52)), none] [.int (v66)] h67 _
                  refine jv_iload (jv_dk t_X13_canMap (k := 130) rfl) rfl ?_
                  refine jv_icmp_ne (tgt := 247) (jv_dk t_X13_canMap (k := 131) rfl) rfl (fun c68 => ?_) (fun c68 => ?_)
                  · refine jv_iconst (v := 0) (jv_dk t_X13_canMap (k := 134) rfl) (by decide) ?_
                    refine jv_le_row (jv_le_s (jv_le_s (jv_le_n (jv_le_n (jv_le_n (jv_le_n (jv_le_s (jv_le_s (jv_le_n (jv_le_nil)))))))))) ?_
                    exact o_f_X13_canMap_b248 _ _ _ _ _ _ 
                  · show jv_O _ _ _ _ 243 _ _ _ _
                    refine jv_iconst (v := 1) (jv_dk t_X13_canMap (k := 132) rfl) (by decide) ?_
                    refine jv_goto (tgt := 248) (jv_dk t_X13_canMap (k := 133) rfl) rfl ?_
                    refine jv_le_row (jv_le_s (jv_le_s (jv_le_n (jv_le_n (jv_le_n (jv_le_n (jv_le_s (jv_le_s (jv_le_n (jv_le_nil)))))))))) ?_
                    exact o_f_X13_canMap_b248 _ _ _ _ _ _ 
            · show jv_O _ _ _ _ 49 _ _ _ _
              refine jv_iconst (v := 0) (jv_dk t_X13_canMap (k := 27) rfl) (by decide) ?_
              exact jv_iret (ty := .boolean) (jv_dk t_X13_canMap (k := 28) rfl) rfl rfl rfl
