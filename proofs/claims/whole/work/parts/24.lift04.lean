def t0_X11_addRange : List (Nat × Instr × Nat) := [(0, .aload_n 0, 1), (1, .getfield 28, 3), (4, .iload_n 2, 1), (5, .iload_n 3, 1), (6, .iload 4, 2), (8, .iload 5, 2), (10, .invokevirtual 205, 3), (13, .ifCond .ne 5, 3), (16, .iconst (-1), 1), (17, .ireturn, 1), (18, .aload_n 0, 1), (19, .getfield 28, 3), (22, .getfield 56, 3), (25, .iload_n 2, 1), (26, .invokevirtual 178, 3), (29, .istore 6, 2), (31, .iload 5, 2), (33, .iconst 1, 1), (34, .if_icmp .ne 51, 3), (37, .aload_n 0, 1), (38, .getfield 12, 3), (41, .getfield 143, 3), (44, .iload_n 1, 1), (45, .iaload, 1), (46, .aload_n 0, 1), (47, .getfield 28, 3), (50, .getfield 62, 3), (53, .iload_n 2, 1), (54, .iaload, 1), (55, .if_icmp .ne 30, 3), (58, .aload_n 0, 1), (59, .getfield 28, 3), (62, .iload 6, 2), (64, .aload_n 0, 1), (65, .getfield 12, 3), (68, .getfield 143, 3), (71, .iload_n 1, 1), (72, .iaload, 1), (73, .invokevirtual 209, 3), (76, .iload 4, 2), (78, .if_icmp .ne 7, 3), (81, .iconst 1, 1), (82, .goto 4, 3), (85, .iconst 0, 1), (86, .istore 7, 2), (88, .iload 7, 2), (90, .ifCond .ne 15, 3), (93, .aload_n 0, 1), (94, .iload_n 1, 1), (95, .iload 6, 2), (97, .invokevirtual 153, 3), (100, .ifCond .ne 5, 3), (103, .iconst (-1), 1), (104, .ireturn, 1), (105, .aload_n 0, 1), (106, .getfield 28, 3), (109, .iload_n 2, 1), (110, .iload_n 3, 1), (111, .iload 4, 2), (113, .iload 5, 2), (115, .invokevirtual 212, 3), (118, .ireturn, 1)]
theorem t_X11_addRange : jv_dec cX11_addRange t0_X11_addRange = true := by decide +kernel
def M_X11_addRange : jm := (yX11_addRange, cX11_addRange, 8, (some .int), 4, 100, [])
theorem lk_X11_205 : jv_lk RX11 205 M_X10_canTake := Or.inr ⟨"SpaceWarden", (jv_at 691 (by decide +kernel))⟩
set_option maxRecDepth 20000 in
theorem me_X10_canTake : jv_me M_X10_canTake 4 := ⟨(jv_in3 (List.mem_of_getElem? (i := 54) rfl)), (jv_at 167 (by decide +kernel)), ⟨by decide, by decide⟩, by decide +kernel⟩
theorem lk_X11_212 : jv_lk RX11 212 M_X10_add := Or.inr ⟨"SpaceWarden", (jv_at 734 (by decide +kernel))⟩
set_option maxRecDepth 20000 in
theorem me_X10_add : jv_me M_X10_add 4 := ⟨(jv_in3 (List.mem_of_getElem? (i := 97) rfl)), (jv_at 167 (by decide +kernel)), ⟨by decide, by decide⟩, by decide +kernel⟩
theorem mv_X10_add : jv_mv M_X10_add := ⟨(jv_at 736 (by decide +kernel)), (jv_at 42 (by decide +kernel))⟩
theorem lk_X11_153 : Cond.methodLink RX11 153 M_X11_rules.1 ∈ lw_tbl := (jv_at 726 (by decide +kernel))
set_option maxRecDepth 20000 in
theorem me_X11_rules : jv_me M_X11_rules 2 := ⟨(jv_in3 (List.mem_of_getElem? (i := 89) rfl)), (jv_at 163 (by decide +kernel)), ⟨by decide, by decide⟩, by decide +kernel⟩
theorem mv_X11_rules : jv_mv M_X11_rules := ⟨(jv_at 728 (by decide +kernel)), (jv_at 40 (by decide +kernel))⟩
theorem lk_X11_209 : jv_lk RX11 209 M_X10_inward := Or.inr ⟨"SpaceWarden", (jv_at 717 (by decide +kernel))⟩
set_option maxRecDepth 20000 in
theorem me_X10_inward : jv_me M_X10_inward 2 := ⟨(jv_in3 (List.mem_of_getElem? (i := 80) rfl)), (jv_at 167 (by decide +kernel)), ⟨by decide, by decide⟩, by decide +kernel⟩
theorem mv_X10_inward : jv_mv M_X10_inward := ⟨(jv_at 719 (by decide +kernel)), (jv_at 38 (by decide +kernel))⟩
theorem mv_X10_canTake : jv_mv M_X10_canTake := ⟨(jv_at 693 (by decide +kernel)), (jv_at 33 (by decide +kernel))⟩
def f_X11_addRange_b105 (x0 : Nat) (x2 : Int32) (x3 : Int32) (x4 : Int32) (x5 : Int32) (h : jh) : Option (Int32 × jh) :=
  gR h x0 9 2 fun v11 =>
  cV h v11 8 (f_X10_add v11 x2 x3 x4 x5 h) fun v12 h13 =>
  some (v12, h13)
theorem o_f_X11_addRange_b105 {X : jx} {b0 : Nat × Nat} (x0 : Nat) (x2 : Int32) (x3 : Int32) (x4 : Int32) (x5 : Int32) (h : jh) : jv_O X M_X11_addRange b0 jeI 105 [some (.ref (x0)), none, some (.int (x2)), some (.int (x3)), some (.int (x4)), some (.int (x5)), none, none] [] h (f_X11_addRange_b105 x0 x2 x3 x4 x5 h) := by
  unfold f_X11_addRange_b105
  refine jv_aload_n (jv_dk t_X11_addRange (k := 54) rfl) rfl rfl (Or.inr ⟨_, rfl⟩) ?_
  refine jv_gR (jv_dk t_X11_addRange (k := 55) rfl) fl_X11_28 (fun v11 => ?_)
  refine jv_iload_n (jv_dk t_X11_addRange (k := 56) rfl) rfl rfl ?_
  refine jv_iload_n (jv_dk t_X11_addRange (k := 57) rfl) rfl rfl ?_
  refine jv_iload (jv_dk t_X11_addRange (k := 58) rfl) rfl ?_
  refine jv_iload (jv_dk t_X11_addRange (k := 59) rfl) rfl ?_
  refine jv_callV (en' := jeI) (pv := jpI) (As := [.int (x2), .int (x3), .int (x4), .int (x5)]) (S := []) (jv_dk t_X11_addRange (k := 60) rfl) (fun _ => rfl) lk_X11_212 me_X10_add mv_X10_add ⟨by decide, by decide⟩ rfl rfl rfl (Nat.le_of_ble_eq_true rfl) (P_X10_add X v11 x2 x3 x4 x5 h) (fun v12 h13 => ?_)
  show jv_O X M_X11_addRange _ jeI 118 [some (.ref (x0)), none, some (.int (x2)), some (.int (x3)), some (.int (x4)), some (.int (x5)), none, none] [.int (v12)] h13 _
  exact jv_iret (ty := .int) (jv_dk t_X11_addRange (k := 61) rfl) rfl rfl rfl
def f_X11_addRange_b86 (x0 : Nat) (x1 : Int32) (x2 : Int32) (x3 : Int32) (x4 : Int32) (x5 : Int32) (x6 : Int32) (s0 : Int32) (h : jh) : Option (Int32 × jh) :=
  (if ¬ s0 = 0 then
  f_X11_addRange_b105 x0 x2 x3 x4 x5 h
  else
  cV h x0 9 (f_X11_rules x0 x1 x6 h) fun v14 h15 =>
  (if ¬ v14 = 0 then
  f_X11_addRange_b105 x0 x2 x3 x4 x5 h15
  else
  some ((-1), h15)))
theorem o_f_X11_addRange_b86 {X : jx} {b0 : Nat × Nat} (x0 : Nat) (x1 : Int32) (x2 : Int32) (x3 : Int32) (x4 : Int32) (x5 : Int32) (x6 : Int32) (s0 : Int32) (h : jh) : jv_O X M_X11_addRange b0 jeI 86 [some (.ref (x0)), some (.int (x1)), some (.int (x2)), some (.int (x3)), some (.int (x4)), some (.int (x5)), some (.int (x6)), none] [.int (s0)] h (f_X11_addRange_b86 x0 x1 x2 x3 x4 x5 x6 s0 h) := by
  unfold f_X11_addRange_b86
  refine jv_istore (L' := [some (.ref (x0)), some (.int (x1)), some (.int (x2)), some (.int (x3)), some (.int (x4)), some (.int (x5)), some (.int (x6)), some (.int (s0))]) (jv_dk t_X11_addRange (k := 44) rfl) (Nat.le_of_ble_eq_true rfl) rfl ?_
  refine jv_iload (jv_dk t_X11_addRange (k := 45) rfl) rfl ?_
  refine jv_if_ne (tgt := 105) (jv_dk t_X11_addRange (k := 46) rfl) rfl (fun c10 => ?_) (fun c10 => ?_)
  · refine jv_le_row (jv_le_s (jv_le_n (jv_le_s (jv_le_s (jv_le_s (jv_le_s (jv_le_n (jv_le_n (jv_le_nil))))))))) ?_
    exact o_f_X11_addRange_b105 _ _ _ _ _ _ 
  · show jv_O _ _ _ _ 93 _ _ _ _
    refine jv_aload_n (jv_dk t_X11_addRange (k := 47) rfl) rfl rfl (Or.inr ⟨_, rfl⟩) ?_
    refine jv_iload_n (jv_dk t_X11_addRange (k := 48) rfl) rfl rfl ?_
    refine jv_iload (jv_dk t_X11_addRange (k := 49) rfl) rfl ?_
    refine jv_callV (en' := jeI) (pv := jpI) (As := [.int (x1), .int (x6)]) (S := []) (jv_dk t_X11_addRange (k := 50) rfl) (fun _ => rfl) (Or.inl lk_X11_153) me_X11_rules mv_X11_rules ⟨by decide, by decide⟩ rfl rfl rfl (Nat.le_of_ble_eq_true rfl) (P_X11_rules X x0 x1 x6 h) (fun v14 h15 => ?_)
    show jv_O X M_X11_addRange _ jeI 100 [some (.ref (x0)), some (.int (x1)), some (.int (x2)), some (.int (x3)), some (.int (x4)), some (.int (x5)), some (.int (x6)), some (.int (s0))] [.int (v14)] h15 _
    refine jv_if_ne (tgt := 105) (jv_dk t_X11_addRange (k := 51) rfl) rfl (fun c16 => ?_) (fun c16 => ?_)
    · refine jv_le_row (jv_le_s (jv_le_n (jv_le_s (jv_le_s (jv_le_s (jv_le_s (jv_le_n (jv_le_n (jv_le_nil))))))))) ?_
      exact o_f_X11_addRange_b105 _ _ _ _ _ _ 
    · show jv_O _ _ _ _ 103 _ _ _ _
      refine jv_iconst (v := (-1)) (jv_dk t_X11_addRange (k := 52) rfl) (by decide) ?_
      exact jv_iret (ty := .int) (jv_dk t_X11_addRange (k := 53) rfl) rfl rfl rfl
def f_X11_addRange (a0 : Nat) (a1 : Int32) (a2 : Int32) (a3 : Int32) (a4 : Int32) (a5 : Int32) (h : jh) : Option (Int32 × jh) :=
  gR h a0 9 2 fun v1 =>
  cV h v1 8 (f_X10_canTake v1 a2 a3 a4 a5 h) fun v2 h3 =>
  (if ¬ v2 = 0 then
  gR h3 a0 9 2 fun v5 =>
  gR h3 v5 8 0 fun v6 =>
  cV h3 v6 7 (f_X9_around v6 a2 h3) fun v7 h8 =>
  (if ¬ a5 = 1 then
  f_X11_addRange_b86 a0 a1 a2 a3 a4 a5 v7 0 h8
  else
  gR h8 a0 9 0 fun v17 =>
  gR h8 v17 3 5 fun v18 =>
  aI h8 v18 a1 fun v19 =>
  gR h8 a0 9 2 fun v20 =>
  gR h8 v20 8 1 fun v21 =>
  aI h8 v21 a2 fun v22 =>
  (if ¬ v19 = v22 then
  f_X11_addRange_b86 a0 a1 a2 a3 a4 a5 v7 0 h8
  else
  gR h8 a0 9 2 fun v24 =>
  gR h8 a0 9 0 fun v25 =>
  gR h8 v25 3 5 fun v26 =>
  aI h8 v26 a1 fun v27 =>
  cV h8 v24 8 (f_X10_inward v24 v7 v27 h8) fun v28 h29 =>
  (if ¬ v28 = a4 then
  f_X11_addRange_b86 a0 a1 a2 a3 a4 a5 v7 0 h29
  else
  f_X11_addRange_b86 a0 a1 a2 a3 a4 a5 v7 1 h29)))
  else
  some ((-1), h3))
theorem P_X11_addRange (X : jx) (a0 : Nat) (a1 : Int32) (a2 : Int32) (a3 : Int32) (a4 : Int32) (a5 : Int32) (h : jh) : jv_P X M_X11_addRange jeI [.ref (a0), .int (a1), .int (a2), .int (a3), .int (a4), .int (a5)] h (f_X11_addRange a0 a1 a2 a3 a4 a5 h) := by
  refine jv_P.of (by decide) rfl (by simp [Value.category]) (Nat.le_of_ble_eq_true rfl) ?_
  show jv_O X M_X11_addRange (h.1, h.2.1) jeI 0 [some (.ref (a0)), some (.int (a1)), some (.int (a2)), some (.int (a3)), some (.int (a4)), some (.int (a5)), none, none] [] h (f_X11_addRange a0 a1 a2 a3 a4 a5 h)
  unfold f_X11_addRange
  refine jv_aload_n (jv_dk t_X11_addRange (k := 0) rfl) rfl rfl (Or.inr ⟨_, rfl⟩) ?_
  refine jv_gR (jv_dk t_X11_addRange (k := 1) rfl) fl_X11_28 (fun v1 => ?_)
  refine jv_iload_n (jv_dk t_X11_addRange (k := 2) rfl) rfl rfl ?_
  refine jv_iload_n (jv_dk t_X11_addRange (k := 3) rfl) rfl rfl ?_
  refine jv_iload (jv_dk t_X11_addRange (k := 4) rfl) rfl ?_
  refine jv_iload (jv_dk t_X11_addRange (k := 5) rfl) rfl ?_
  refine jv_callV (en' := jeI) (pv := jpI) (As := [.int (a2), .int (a3), .int (a4), .int (a5)]) (S := []) (jv_dk t_X11_addRange (k := 6) rfl) (fun _ => rfl) lk_X11_205 me_X10_canTake mv_X10_canTake ⟨by decide, by decide⟩ rfl rfl rfl (Nat.le_of_ble_eq_true rfl) (P_X10_canTake X v1 a2 a3 a4 a5 h) (fun v2 h3 => ?_)
  show jv_O X M_X11_addRange _ jeI 13 [some (.ref (a0)), some (.int (a1)), some (.int (a2)), some (.int (a3)), some (.int (a4)), some (.int (a5)), none, none] [.int (v2)] h3 _
  refine jv_if_ne (tgt := 18) (jv_dk t_X11_addRange (k := 7) rfl) rfl (fun c4 => ?_) (fun c4 => ?_)
  · refine jv_aload_n (jv_dk t_X11_addRange (k := 10) rfl) rfl rfl (Or.inr ⟨_, rfl⟩) ?_
    refine jv_gR (jv_dk t_X11_addRange (k := 11) rfl) fl_X11_28 (fun v5 => ?_)
    refine jv_gR (jv_dk t_X11_addRange (k := 12) rfl) fl_X11_56 (fun v6 => ?_)
    refine jv_iload_n (jv_dk t_X11_addRange (k := 13) rfl) rfl rfl ?_
    refine jv_callV (en' := jeI) (pv := jpI) (As := [.int (a2)]) (S := []) (jv_dk t_X11_addRange (k := 14) rfl) (fun _ => rfl) lk_X11_178 me_X9_around mv_X9_around ⟨by decide, by decide⟩ rfl rfl rfl (Nat.le_of_ble_eq_true rfl) (P_X9_around X v6 a2 h3) (fun v7 h8 => ?_)
    show jv_O X M_X11_addRange _ jeI 29 [some (.ref (a0)), some (.int (a1)), some (.int (a2)), some (.int (a3)), some (.int (a4)), some (.int (a5)), none, none] [.int (v7)] h8 _
    refine jv_istore (L' := [some (.ref (a0)), some (.int (a1)), some (.int (a2)), some (.int (a3)), some (.int (a4)), some (.int (a5)), some (.int (v7)), none]) (jv_dk t_X11_addRange (k := 15) rfl) (Nat.le_of_ble_eq_true rfl) rfl ?_
    refine jv_iload (jv_dk t_X11_addRange (k := 16) rfl) rfl ?_
    refine jv_iconst (v := 1) (jv_dk t_X11_addRange (k := 17) rfl) (by decide) ?_
    refine jv_icmp_ne (tgt := 85) (jv_dk t_X11_addRange (k := 18) rfl) rfl (fun c9 => ?_) (fun c9 => ?_)
    · refine jv_iconst (v := 0) (jv_dk t_X11_addRange (k := 43) rfl) (by decide) ?_
      exact o_f_X11_addRange_b86 _ _ _ _ _ _ _ _ _ 
    · show jv_O _ _ _ _ 37 _ _ _ _
      refine jv_aload_n (jv_dk t_X11_addRange (k := 19) rfl) rfl rfl (Or.inr ⟨_, rfl⟩) ?_
      refine jv_gR (jv_dk t_X11_addRange (k := 20) rfl) fl_X11_12 (fun v17 => ?_)
      refine jv_gR (jv_dk t_X11_addRange (k := 21) rfl) fl_X11_143 (fun v18 => ?_)
      refine jv_iload_n (jv_dk t_X11_addRange (k := 22) rfl) rfl rfl ?_
      refine jv_iaload (jv_dk t_X11_addRange (k := 23) rfl) (fun v19 => ?_)
      refine jv_aload_n (jv_dk t_X11_addRange (k := 24) rfl) rfl rfl (Or.inr ⟨_, rfl⟩) ?_
      refine jv_gR (jv_dk t_X11_addRange (k := 25) rfl) fl_X11_28 (fun v20 => ?_)
      refine jv_gR (jv_dk t_X11_addRange (k := 26) rfl) fl_X11_62 (fun v21 => ?_)
      refine jv_iload_n (jv_dk t_X11_addRange (k := 27) rfl) rfl rfl ?_
      refine jv_iaload (jv_dk t_X11_addRange (k := 28) rfl) (fun v22 => ?_)
      refine jv_icmp_ne (tgt := 85) (jv_dk t_X11_addRange (k := 29) rfl) rfl (fun c23 => ?_) (fun c23 => ?_)
      · refine jv_iconst (v := 0) (jv_dk t_X11_addRange (k := 43) rfl) (by decide) ?_
        exact o_f_X11_addRange_b86 _ _ _ _ _ _ _ _ _ 
      · show jv_O _ _ _ _ 58 _ _ _ _
        refine jv_aload_n (jv_dk t_X11_addRange (k := 30) rfl) rfl rfl (Or.inr ⟨_, rfl⟩) ?_
        refine jv_gR (jv_dk t_X11_addRange (k := 31) rfl) fl_X11_28 (fun v24 => ?_)
        refine jv_iload (jv_dk t_X11_addRange (k := 32) rfl) rfl ?_
        refine jv_aload_n (jv_dk t_X11_addRange (k := 33) rfl) rfl rfl (Or.inr ⟨_, rfl⟩) ?_
        refine jv_gR (jv_dk t_X11_addRange (k := 34) rfl) fl_X11_12 (fun v25 => ?_)
        refine jv_gR (jv_dk t_X11_addRange (k := 35) rfl) fl_X11_143 (fun v26 => ?_)
        refine jv_iload_n (jv_dk t_X11_addRange (k := 36) rfl) rfl rfl ?_
        refine jv_iaload (jv_dk t_X11_addRange (k := 37) rfl) (fun v27 => ?_)
        refine jv_callV (en' := jeI) (pv := jpI) (As := [.int (v7), .int (v27)]) (S := []) (jv_dk t_X11_addRange (k := 38) rfl) (fun _ => rfl) lk_X11_209 me_X10_inward mv_X10_inward ⟨by decide, by decide⟩ rfl rfl rfl (Nat.le_of_ble_eq_true rfl) (P_X10_inward X v24 v7 v27 h8) (fun v28 h29 => ?_)
        show jv_O X M_X11_addRange _ jeI 76 [some (.ref (a0)), some (.int (a1)), some (.int (a2)), some (.int (a3)), some (.int (a4)), some (.int (a5)), some (.int (v7)), none] [.int (v28)] h29 _
        refine jv_iload (jv_dk t_X11_addRange (k := 39) rfl) rfl ?_
        refine jv_icmp_ne (tgt := 85) (jv_dk t_X11_addRange (k := 40) rfl) rfl (fun c30 => ?_) (fun c30 => ?_)
        · refine jv_iconst (v := 0) (jv_dk t_X11_addRange (k := 43) rfl) (by decide) ?_
          exact o_f_X11_addRange_b86 _ _ _ _ _ _ _ _ _ 
        · show jv_O _ _ _ _ 81 _ _ _ _
          refine jv_iconst (v := 1) (jv_dk t_X11_addRange (k := 41) rfl) (by decide) ?_
          refine jv_goto (tgt := 86) (jv_dk t_X11_addRange (k := 42) rfl) rfl ?_
          exact o_f_X11_addRange_b86 _ _ _ _ _ _ _ _ _ 
  · show jv_O _ _ _ _ 16 _ _ _ _
    refine jv_iconst (v := (-1)) (jv_dk t_X11_addRange (k := 8) rfl) (by decide) ?_
    exact jv_iret (ty := .int) (jv_dk t_X11_addRange (k := 9) rfl) rfl rfl rfl
def t0_X11_turnInto : List (Nat × Instr × Nat) := [(0, .aload_n 0, 1), (1, .getfield 12, 3), (4, .iload_n 1, 1), (5, .invokevirtual 140, 3), (8, .ifCond .eq 10, 3), (11, .iload_n 2, 1), (12, .invokestatic 215, 3), (15, .ifCond .ne 5, 3), (18, .iconst (-1), 1), (19, .ireturn, 1), (20, .aload_n 0, 1), (21, .getfield 28, 3), (24, .aload_n 0, 1), (25, .getfield 12, 3), (28, .getfield 137, 3), (31, .iload_n 1, 1), (32, .iaload, 1), (33, .iload_n 2, 1), (34, .invokevirtual 218, 3), (37, .istore_n 3, 1), (38, .iload_n 3, 1), (39, .ldc 221, 2), (41, .if_icmp .ne 5, 3), (44, .iconst (-1), 1), (45, .ireturn, 1), (46, .aload_n 0, 1), (47, .getfield 12, 3), (50, .getfield 143, 3), (53, .iload_n 1, 1), (54, .iload_n 3, 1), (55, .iastore, 1), (56, .aload_n 0, 1), (57, .getfield 12, 3), (60, .iload_n 1, 1), (61, .iload_n 2, 1), (62, .ifCond .ne 7, 3), (65, .iconst 1, 1), (66, .goto 4, 3), (69, .iconst 0, 1), (70, .invokevirtual 198, 3), (73, .iload_n 3, 1), (74, .ireturn, 1)]
theorem t_X11_turnInto : jv_dec cX11_turnInto t0_X11_turnInto = true := by decide +kernel
def M_X11_turnInto : jm := (yX11_turnInto, cX11_turnInto, 4, (some .int), 2, 51, [])
theorem lk_X11_215 : jv_lk RX11 215 M_X12_isId := Or.inr ⟨"SpaceWarden", (jv_at 742 (by decide +kernel))⟩
theorem lk_X11_218 : jv_lk RX11 218 M_X10_outward := Or.inr ⟨"SpaceWarden", (jv_at 743 (by decide +kernel))⟩
theorem cn_X11_221 : Cond.constant RX11 221 65534 ∈ lw_tbl := (jv_at 744 (by decide +kernel))
def f_X11_turnInto_b70 (x3 : Int32) (s0 : Int32) (s1 : Int32) (s2 : Nat) (h : jh) : Option (Int32 × jh) :=
  cV h s2 3 (f_X5_setPower s2 s1 s0 h) fun _ h20 =>
  some (x3, h20)
theorem o_f_X11_turnInto_b70 {X : jx} {b0 : Nat × Nat} (x3 : Int32) (s0 : Int32) (s1 : Int32) (s2 : Nat) (h : jh) : jv_O X M_X11_turnInto b0 jeI 70 [none, none, none, some (.int (x3))] [.int (s0), .int (s1), .ref (s2)] h (f_X11_turnInto_b70 x3 s0 s1 s2 h) := by
  unfold f_X11_turnInto_b70
  refine jv_callV (en' := jeV) (pv := jpV) (As := [.int (s1), .int (s0)]) (S := []) (jv_dk t_X11_turnInto (k := 39) rfl) (fun _ => rfl) lk_X11_198 me_X5_setPower mv_X5_setPower ⟨by decide, by decide⟩ rfl rfl rfl (Nat.le_of_ble_eq_true rfl) (P_X5_setPower X s2 s1 s0 h) (fun _ h20 => ?_)
  show jv_O X M_X11_turnInto _ jeI 73 [none, none, none, some (.int (x3))] [] h20 _
  refine jv_iload_n (jv_dk t_X11_turnInto (k := 40) rfl) rfl rfl ?_
  exact jv_iret (ty := .int) (jv_dk t_X11_turnInto (k := 41) rfl) rfl rfl rfl
def f_X11_turnInto (a0 : Nat) (a1 : Int32) (a2 : Int32) (h : jh) : Option (Int32 × jh) :=
  gR h a0 9 0 fun v1 =>
  cV h v1 3 (f_X5_hasPower v1 a1 h) fun v2 h3 =>
  (if v2 = 0 then
  some ((-1), h3)
  else
  bd (f_X12_isId a2 h3) fun v5 h6 =>
  (if ¬ v5 = 0 then
  gR h6 a0 9 2 fun v8 =>
  gR h6 a0 9 0 fun v9 =>
  gR h6 v9 3 2 fun v10 =>
  aI h6 v10 a1 fun v11 =>
  cV h6 v8 8 (f_X10_outward v8 v11 a2 h6) fun v12 h13 =>
  (if ¬ v12 = 65534 then
  gR h13 a0 9 0 fun v15 =>
  gR h13 v15 3 5 fun v16 =>
  sI h13 v16 a1 v12 fun h17 =>
  gR h17 a0 9 0 fun v18 =>
  (if ¬ a2 = 0 then
  f_X11_turnInto_b70 v12 0 a1 v18 h17
  else
  f_X11_turnInto_b70 v12 1 a1 v18 h17)
  else
  some ((-1), h13))
  else
  some ((-1), h6)))
theorem P_X11_turnInto (X : jx) (a0 : Nat) (a1 : Int32) (a2 : Int32) (h : jh) : jv_P X M_X11_turnInto jeI [.ref (a0), .int (a1), .int (a2)] h (f_X11_turnInto a0 a1 a2 h) := by
  refine jv_P.of (by decide) rfl (by simp [Value.category]) (Nat.le_of_ble_eq_true rfl) ?_
  show jv_O X M_X11_turnInto (h.1, h.2.1) jeI 0 [some (.ref (a0)), some (.int (a1)), some (.int (a2)), none] [] h (f_X11_turnInto a0 a1 a2 h)
  unfold f_X11_turnInto
  refine jv_aload_n (jv_dk t_X11_turnInto (k := 0) rfl) rfl rfl (Or.inr ⟨_, rfl⟩) ?_
  refine jv_gR (jv_dk t_X11_turnInto (k := 1) rfl) fl_X11_12 (fun v1 => ?_)
  refine jv_iload_n (jv_dk t_X11_turnInto (k := 2) rfl) rfl rfl ?_
  refine jv_callV (en' := jeI) (pv := jpI) (As := [.int (a1)]) (S := []) (jv_dk t_X11_turnInto (k := 3) rfl) (fun _ => rfl) lk_X11_140 me_X5_hasPower mv_X5_hasPower ⟨by decide, by decide⟩ rfl rfl rfl (Nat.le_of_ble_eq_true rfl) (P_X5_hasPower X v1 a1 h) (fun v2 h3 => ?_)
  show jv_O X M_X11_turnInto _ jeI 8 [some (.ref (a0)), some (.int (a1)), some (.int (a2)), none] [.int (v2)] h3 _
  refine jv_if_eq (tgt := 18) (jv_dk t_X11_turnInto (k := 4) rfl) rfl (fun c4 => ?_) (fun c4 => ?_)
  · refine jv_iconst (v := (-1)) (jv_dk t_X11_turnInto (k := 8) rfl) (by decide) ?_
    exact jv_iret (ty := .int) (jv_dk t_X11_turnInto (k := 9) rfl) rfl rfl rfl
  · show jv_O _ _ _ _ 11 _ _ _ _
    refine jv_iload_n (jv_dk t_X11_turnInto (k := 5) rfl) rfl rfl ?_
    refine jv_callS (en' := jeI) (pv := jpI) (As := [.int (a2)]) (S := []) (jv_dk t_X11_turnInto (k := 6) rfl) (fun _ => rfl) lk_X11_215 me_X12_isId ms_X12_isId ⟨by decide, by decide⟩ rfl rfl (Nat.le_of_ble_eq_true rfl) (P_X12_isId X a2 h3) (fun v5 h6 => ?_)
    show jv_O X M_X11_turnInto _ jeI 15 [some (.ref (a0)), some (.int (a1)), some (.int (a2)), none] [.int (v5)] h6 _
    refine jv_if_ne (tgt := 20) (jv_dk t_X11_turnInto (k := 7) rfl) rfl (fun c7 => ?_) (fun c7 => ?_)
    · refine jv_aload_n (jv_dk t_X11_turnInto (k := 10) rfl) rfl rfl (Or.inr ⟨_, rfl⟩) ?_
      refine jv_gR (jv_dk t_X11_turnInto (k := 11) rfl) fl_X11_28 (fun v8 => ?_)
      refine jv_aload_n (jv_dk t_X11_turnInto (k := 12) rfl) rfl rfl (Or.inr ⟨_, rfl⟩) ?_
      refine jv_gR (jv_dk t_X11_turnInto (k := 13) rfl) fl_X11_12 (fun v9 => ?_)
      refine jv_gR (jv_dk t_X11_turnInto (k := 14) rfl) fl_X11_137 (fun v10 => ?_)
      refine jv_iload_n (jv_dk t_X11_turnInto (k := 15) rfl) rfl rfl ?_
      refine jv_iaload (jv_dk t_X11_turnInto (k := 16) rfl) (fun v11 => ?_)
      refine jv_iload_n (jv_dk t_X11_turnInto (k := 17) rfl) rfl rfl ?_
      refine jv_callV (en' := jeI) (pv := jpI) (As := [.int (v11), .int (a2)]) (S := []) (jv_dk t_X11_turnInto (k := 18) rfl) (fun _ => rfl) lk_X11_218 me_X10_outward mv_X10_outward ⟨by decide, by decide⟩ rfl rfl rfl (Nat.le_of_ble_eq_true rfl) (P_X10_outward X v8 v11 a2 h6) (fun v12 h13 => ?_)
      show jv_O X M_X11_turnInto _ jeI 37 [some (.ref (a0)), some (.int (a1)), some (.int (a2)), none] [.int (v12)] h13 _
      refine jv_istore_n (L' := [some (.ref (a0)), some (.int (a1)), some (.int (a2)), some (.int (v12))]) (jv_dk t_X11_turnInto (k := 19) rfl) rfl (Nat.le_of_ble_eq_true rfl) rfl ?_
      refine jv_iload_n (jv_dk t_X11_turnInto (k := 20) rfl) rfl rfl ?_
      refine jv_ldc (jv_dk t_X11_turnInto (k := 21) rfl) cn_X11_221 ?_
      refine jv_icmp_ne (tgt := 46) (jv_dk t_X11_turnInto (k := 22) rfl) rfl (fun c14 => ?_) (fun c14 => ?_)
      · refine jv_aload_n (jv_dk t_X11_turnInto (k := 25) rfl) rfl rfl (Or.inr ⟨_, rfl⟩) ?_
        refine jv_gR (jv_dk t_X11_turnInto (k := 26) rfl) fl_X11_12 (fun v15 => ?_)
        refine jv_gR (jv_dk t_X11_turnInto (k := 27) rfl) fl_X11_143 (fun v16 => ?_)
        refine jv_iload_n (jv_dk t_X11_turnInto (k := 28) rfl) rfl rfl ?_
        refine jv_iload_n (jv_dk t_X11_turnInto (k := 29) rfl) rfl rfl ?_
        refine jv_iastore (jv_dk t_X11_turnInto (k := 30) rfl) (fun h17 => ?_)
        refine jv_aload_n (jv_dk t_X11_turnInto (k := 31) rfl) rfl rfl (Or.inr ⟨_, rfl⟩) ?_
        refine jv_gR (jv_dk t_X11_turnInto (k := 32) rfl) fl_X11_12 (fun v18 => ?_)
        refine jv_iload_n (jv_dk t_X11_turnInto (k := 33) rfl) rfl rfl ?_
        refine jv_iload_n (jv_dk t_X11_turnInto (k := 34) rfl) rfl rfl ?_
        refine jv_if_ne (tgt := 69) (jv_dk t_X11_turnInto (k := 35) rfl) rfl (fun c19 => ?_) (fun c19 => ?_)
        · refine jv_iconst (v := 0) (jv_dk t_X11_turnInto (k := 38) rfl) (by decide) ?_
          refine jv_le_row (jv_le_n (jv_le_n (jv_le_n (jv_le_s (jv_le_nil))))) ?_
          exact o_f_X11_turnInto_b70 _ _ _ _ _ 
        · show jv_O _ _ _ _ 65 _ _ _ _
          refine jv_iconst (v := 1) (jv_dk t_X11_turnInto (k := 36) rfl) (by decide) ?_
          refine jv_goto (tgt := 70) (jv_dk t_X11_turnInto (k := 37) rfl) rfl ?_
          refine jv_le_row (jv_le_n (jv_le_n (jv_le_n (jv_le_s (jv_le_nil))))) ?_
          exact o_f_X11_turnInto_b70 _ _ _ _ _ 
      · show jv_O _ _ _ _ 44 _ _ _ _
        refine jv_iconst (v := (-1)) (jv_dk t_X11_turnInto (k := 23) rfl) (by decide) ?_
        exact jv_iret (ty := .int) (jv_dk t_X11_turnInto (k := 24) rfl) rfl rfl rfl
    · show jv_O _ _ _ _ 18 _ _ _ _
      refine jv_iconst (v := (-1)) (jv_dk t_X11_turnInto (k := 8) rfl) (by decide) ?_
      exact jv_iret (ty := .int) (jv_dk t_X11_turnInto (k := 9) rfl) rfl rfl rfl
def t0_X11_putThing : List (Nat × Instr × Nat) := [(0, .aload_n 0, 1), (1, .getfield 12, 3), (4, .getfield 156, 3), (7, .iload_n 1, 1), (8, .iaload, 1), (9, .istore 4, 2), (11, .iload_n 2, 1), (12, .ifCond .lt 37, 3), (15, .iload_n 2, 1), (16, .bipush 8, 2), (18, .if_icmp .ge 31, 3), (21, .iload_n 3, 1), (22, .ifCond .lt 27, 3), (25, .iload_n 3, 1), (26, .bipush 99, 2), (28, .if_icmp .gt 21, 3), (31, .aload_n 0, 1), (32, .iload_n 1, 1), (33, .aload_n 0, 1), (34, .getfield 35, 3), (37, .getfield 65, 3), (40, .iload 4, 2), (42, .iaload, 1), (43, .invokevirtual 153, 3), (46, .ifCond .ne 5, 3), (49, .iconst (-1), 1), (50, .ireturn, 1), (51, .aload_n 0, 1), (52, .getfield 35, 3), (55, .getfield 222, 3), (58, .iload 4, 2), (60, .bipush 8, 2), (62, .imul, 1), (63, .iload_n 2, 1), (64, .iadd, 1), (65, .iaload, 1), (66, .istore 5, 2), (68, .iload 5, 2), (70, .iload_n 3, 1), (71, .if_icmp .ne 5, 3), (74, .iconst (-1), 1), (75, .ireturn, 1), (76, .aload_n 0, 1), (77, .getfield 35, 3), (80, .iload 4, 2), (82, .iload_n 2, 1), (83, .iload_n 3, 1), (84, .invokevirtual 225, 3), (87, .iload 5, 2), (89, .ireturn, 1)]
theorem t_X11_putThing : jv_dec cX11_putThing t0_X11_putThing = true := by decide +kernel
def M_X11_putThing : jm := (yX11_putThing, cX11_putThing, 6, (some .int), 4, 91, [])
theorem fl_X11_222 : jv_F RX11 222 0 2 RX2 TX2 4 := ⟨rfl, by decide, inX2, Or.inr ⟨"SpaceWarden", (jv_at 354 (by decide +kernel))⟩⟩
theorem lk_X11_225 : jv_lk RX11 225 M_X2_put := Or.inr ⟨"SpaceWarden", (jv_at 749 (by decide +kernel))⟩
set_option maxRecDepth 20000 in
theorem me_X2_put : jv_me M_X2_put 3 := ⟨(jv_in3 (List.mem_of_getElem? (i := 112) rfl)), (jv_at 168 (by decide +kernel)), ⟨by decide, by decide⟩, by decide +kernel⟩
theorem mv_X2_put : jv_mv M_X2_put := ⟨(jv_at 751 (by decide +kernel)), (jv_at 45 (by decide +kernel))⟩
def f_X11_putThing (a0 : Nat) (a1 : Int32) (a2 : Int32) (a3 : Int32) (h : jh) : Option (Int32 × jh) :=
  gR h a0 9 0 fun v1 =>
  gR h v1 3 3 fun v2 =>
  aI h v2 a1 fun v3 =>
  (if a2 < 0 then
  some ((-1), h)
  else
  (if 8 ≤ a2 then
  some ((-1), h)
  else
  (if a3 < 0 then
  some ((-1), h)
  else
  (if 99 < a3 then
  some ((-1), h)
  else
  gR h a0 9 3 fun v8 =>
  gR h v8 0 1 fun v9 =>
  aI h v9 v3 fun v10 =>
  cV h a0 9 (f_X11_rules a0 a1 v10 h) fun v11 h12 =>
  (if ¬ v11 = 0 then
  gR h12 a0 9 3 fun v14 =>
  gR h12 v14 0 2 fun v15 =>
  aI h12 v15 ((v3 * 8) + a2) fun v16 =>
  (if ¬ v16 = a3 then
  gR h12 a0 9 3 fun v18 =>
  cV h12 v18 0 (f_X2_put v18 v3 a2 a3 h12) fun _ h19 =>
  some (v16, h19)
  else
  some ((-1), h12))
  else
  some ((-1), h12))))))
theorem P_X11_putThing (X : jx) (a0 : Nat) (a1 : Int32) (a2 : Int32) (a3 : Int32) (h : jh) : jv_P X M_X11_putThing jeI [.ref (a0), .int (a1), .int (a2), .int (a3)] h (f_X11_putThing a0 a1 a2 a3 h) := by
  refine jv_P.of (by decide) rfl (by simp [Value.category]) (Nat.le_of_ble_eq_true rfl) ?_
  show jv_O X M_X11_putThing (h.1, h.2.1) jeI 0 [some (.ref (a0)), some (.int (a1)), some (.int (a2)), some (.int (a3)), none, none] [] h (f_X11_putThing a0 a1 a2 a3 h)
  unfold f_X11_putThing
  refine jv_aload_n (jv_dk t_X11_putThing (k := 0) rfl) rfl rfl (Or.inr ⟨_, rfl⟩) ?_
  refine jv_gR (jv_dk t_X11_putThing (k := 1) rfl) fl_X11_12 (fun v1 => ?_)
  refine jv_gR (jv_dk t_X11_putThing (k := 2) rfl) fl_X11_156 (fun v2 => ?_)
  refine jv_iload_n (jv_dk t_X11_putThing (k := 3) rfl) rfl rfl ?_
  refine jv_iaload (jv_dk t_X11_putThing (k := 4) rfl) (fun v3 => ?_)
  refine jv_istore (L' := [some (.ref (a0)), some (.int (a1)), some (.int (a2)), some (.int (a3)), some (.int (v3)), none]) (jv_dk t_X11_putThing (k := 5) rfl) (Nat.le_of_ble_eq_true rfl) rfl ?_
  refine jv_iload_n (jv_dk t_X11_putThing (k := 6) rfl) rfl rfl ?_
  refine jv_if_lt (tgt := 49) (jv_dk t_X11_putThing (k := 7) rfl) rfl (fun c4 => ?_) (fun c4 => ?_)
  · refine jv_iconst (v := (-1)) (jv_dk t_X11_putThing (k := 25) rfl) (by decide) ?_
    exact jv_iret (ty := .int) (jv_dk t_X11_putThing (k := 26) rfl) rfl rfl rfl
  · show jv_O _ _ _ _ 15 _ _ _ _
    refine jv_iload_n (jv_dk t_X11_putThing (k := 8) rfl) rfl rfl ?_
    refine jv_bipush (v := 8) (jv_dk t_X11_putThing (k := 9) rfl) (by decide) ?_
    refine jv_icmp_ge (tgt := 49) (jv_dk t_X11_putThing (k := 10) rfl) rfl (fun c5 => ?_) (fun c5 => ?_)
    · refine jv_iconst (v := (-1)) (jv_dk t_X11_putThing (k := 25) rfl) (by decide) ?_
      exact jv_iret (ty := .int) (jv_dk t_X11_putThing (k := 26) rfl) rfl rfl rfl
    · show jv_O _ _ _ _ 21 _ _ _ _
      refine jv_iload_n (jv_dk t_X11_putThing (k := 11) rfl) rfl rfl ?_
      refine jv_if_lt (tgt := 49) (jv_dk t_X11_putThing (k := 12) rfl) rfl (fun c6 => ?_) (fun c6 => ?_)
      · refine jv_iconst (v := (-1)) (jv_dk t_X11_putThing (k := 25) rfl) (by decide) ?_
        exact jv_iret (ty := .int) (jv_dk t_X11_putThing (k := 26) rfl) rfl rfl rfl
      · show jv_O _ _ _ _ 25 _ _ _ _
        refine jv_iload_n (jv_dk t_X11_putThing (k := 13) rfl) rfl rfl ?_
        refine jv_bipush (v := 99) (jv_dk t_X11_putThing (k := 14) rfl) (by decide) ?_
        refine jv_icmp_gt (tgt := 49) (jv_dk t_X11_putThing (k := 15) rfl) rfl (fun c7 => ?_) (fun c7 => ?_)
        · refine jv_iconst (v := (-1)) (jv_dk t_X11_putThing (k := 25) rfl) (by decide) ?_
          exact jv_iret (ty := .int) (jv_dk t_X11_putThing (k := 26) rfl) rfl rfl rfl
        · show jv_O _ _ _ _ 31 _ _ _ _
          refine jv_aload_n (jv_dk t_X11_putThing (k := 16) rfl) rfl rfl (Or.inr ⟨_, rfl⟩) ?_
          refine jv_iload_n (jv_dk t_X11_putThing (k := 17) rfl) rfl rfl ?_
          refine jv_aload_n (jv_dk t_X11_putThing (k := 18) rfl) rfl rfl (Or.inr ⟨_, rfl⟩) ?_
          refine jv_gR (jv_dk t_X11_putThing (k := 19) rfl) fl_X11_35 (fun v8 => ?_)
          refine jv_gR (jv_dk t_X11_putThing (k := 20) rfl) fl_X11_65 (fun v9 => ?_)
          refine jv_iload (jv_dk t_X11_putThing (k := 21) rfl) rfl ?_
          refine jv_iaload (jv_dk t_X11_putThing (k := 22) rfl) (fun v10 => ?_)
          refine jv_callV (en' := jeI) (pv := jpI) (As := [.int (a1), .int (v10)]) (S := []) (jv_dk t_X11_putThing (k := 23) rfl) (fun _ => rfl) (Or.inl lk_X11_153) me_X11_rules mv_X11_rules ⟨by decide, by decide⟩ rfl rfl rfl (Nat.le_of_ble_eq_true rfl) (P_X11_rules X a0 a1 v10 h) (fun v11 h12 => ?_)
          show jv_O X M_X11_putThing _ jeI 46 [some (.ref (a0)), some (.int (a1)), some (.int (a2)), some (.int (a3)), some (.int (v3)), none] [.int (v11)] h12 _
          refine jv_if_ne (tgt := 51) (jv_dk t_X11_putThing (k := 24) rfl) rfl (fun c13 => ?_) (fun c13 => ?_)
          · refine jv_aload_n (jv_dk t_X11_putThing (k := 27) rfl) rfl rfl (Or.inr ⟨_, rfl⟩) ?_
            refine jv_gR (jv_dk t_X11_putThing (k := 28) rfl) fl_X11_35 (fun v14 => ?_)
            refine jv_gR (jv_dk t_X11_putThing (k := 29) rfl) fl_X11_222 (fun v15 => ?_)
            refine jv_iload (jv_dk t_X11_putThing (k := 30) rfl) rfl ?_
            refine jv_bipush (v := 8) (jv_dk t_X11_putThing (k := 31) rfl) (by decide) ?_
            refine jv_imul (jv_dk t_X11_putThing (k := 32) rfl) ?_
            refine jv_iload_n (jv_dk t_X11_putThing (k := 33) rfl) rfl rfl ?_
            refine jv_iadd (jv_dk t_X11_putThing (k := 34) rfl) ?_
            refine jv_iaload (jv_dk t_X11_putThing (k := 35) rfl) (fun v16 => ?_)
            refine jv_istore (L' := [some (.ref (a0)), some (.int (a1)), some (.int (a2)), some (.int (a3)), some (.int (v3)), some (.int (v16))]) (jv_dk t_X11_putThing (k := 36) rfl) (Nat.le_of_ble_eq_true rfl) rfl ?_
            refine jv_iload (jv_dk t_X11_putThing (k := 37) rfl) rfl ?_
            refine jv_iload_n (jv_dk t_X11_putThing (k := 38) rfl) rfl rfl ?_
            refine jv_icmp_ne (tgt := 76) (jv_dk t_X11_putThing (k := 39) rfl) rfl (fun c17 => ?_) (fun c17 => ?_)
            · refine jv_aload_n (jv_dk t_X11_putThing (k := 42) rfl) rfl rfl (Or.inr ⟨_, rfl⟩) ?_
              refine jv_gR (jv_dk t_X11_putThing (k := 43) rfl) fl_X11_35 (fun v18 => ?_)
              refine jv_iload (jv_dk t_X11_putThing (k := 44) rfl) rfl ?_
              refine jv_iload_n (jv_dk t_X11_putThing (k := 45) rfl) rfl rfl ?_
              refine jv_iload_n (jv_dk t_X11_putThing (k := 46) rfl) rfl rfl ?_
              refine jv_callV (en' := jeV) (pv := jpV) (As := [.int (v3), .int (a2), .int (a3)]) (S := []) (jv_dk t_X11_putThing (k := 47) rfl) (fun _ => rfl) lk_X11_225 me_X2_put mv_X2_put ⟨by decide, by decide⟩ rfl rfl rfl (Nat.le_of_ble_eq_true rfl) (P_X2_put X v18 v3 a2 a3 h12) (fun _ h19 => ?_)
              show jv_O X M_X11_putThing _ jeI 87 [some (.ref (a0)), some (.int (a1)), some (.int (a2)), some (.int (a3)), some (.int (v3)), some (.int (v16))] [] h19 _
              refine jv_iload (jv_dk t_X11_putThing (k := 48) rfl) rfl ?_
              exact jv_iret (ty := .int) (jv_dk t_X11_putThing (k := 49) rfl) rfl rfl rfl
            · show jv_O _ _ _ _ 74 _ _ _ _
              refine jv_iconst (v := (-1)) (jv_dk t_X11_putThing (k := 40) rfl) (by decide) ?_
              exact jv_iret (ty := .int) (jv_dk t_X11_putThing (k := 41) rfl) rfl rfl rfl
          · show jv_O _ _ _ _ 49 _ _ _ _
            refine jv_iconst (v := (-1)) (jv_dk t_X11_putThing (k := 25) rfl) (by decide) ?_
            exact jv_iret (ty := .int) (jv_dk t_X11_putThing (k := 26) rfl) rfl rfl rfl
def t0_X11_sees : List (Nat × Instr × Nat) := [(0, .aload_n 0, 1), (1, .getfield 12, 3), (4, .iload_n 2, 1), (5, .aload_n 0, 1), (6, .getfield 12, 3), (9, .getfield 131, 3), (12, .iload_n 1, 1), (13, .iaload, 1), (14, .invokevirtual 134, 3), (17, .ifCond .eq 7, 3), (20, .iconst 1, 1), (21, .goto 4, 3), (24, .iconst 0, 1), (25, .ireturn, 1)]
theorem t_X11_sees : jv_dec cX11_sees t0_X11_sees = true := by decide +kernel
def M_X11_sees : jm := (yX11_sees, cX11_sees, 3, (some .boolean), 1, 22, [])
theorem lk_X11_134 : jv_lk RX11 134 M_X5_numberOf := Or.inr ⟨"SpaceWarden", (jv_at 775 (by decide +kernel))⟩
def f_X11_sees (a0 : Nat) (a1 : Int32) (a2 : Int32) (h : jh) : Option (Int32 × jh) :=
  gR h a0 9 0 fun v1 =>
  gR h a0 9 0 fun v2 =>
  gR h v2 3 1 fun v3 =>
  aI h v3 a1 fun v4 =>
  cV h v1 3 (f_X5_numberOf v1 a2 v4 h) fun v5 h6 =>
  (if v5 = 0 then
  some (0, h6)
  else
  some (1, h6))
theorem P_X11_sees (X : jx) (a0 : Nat) (a1 : Int32) (a2 : Int32) (h : jh) : jv_P X M_X11_sees jeI [.ref (a0), .int (a1), .int (a2)] h (f_X11_sees a0 a1 a2 h) := by
  refine jv_P.of (by decide) rfl (by simp [Value.category]) (Nat.le_of_ble_eq_true rfl) ?_
  show jv_O X M_X11_sees (h.1, h.2.1) jeI 0 [some (.ref (a0)), some (.int (a1)), some (.int (a2))] [] h (f_X11_sees a0 a1 a2 h)
  unfold f_X11_sees
  refine jv_aload_n (jv_dk t_X11_sees (k := 0) rfl) rfl rfl (Or.inr ⟨_, rfl⟩) ?_
  refine jv_gR (jv_dk t_X11_sees (k := 1) rfl) fl_X11_12 (fun v1 => ?_)
  refine jv_iload_n (jv_dk t_X11_sees (k := 2) rfl) rfl rfl ?_
  refine jv_aload_n (jv_dk t_X11_sees (k := 3) rfl) rfl rfl (Or.inr ⟨_, rfl⟩) ?_
  refine jv_gR (jv_dk t_X11_sees (k := 4) rfl) fl_X11_12 (fun v2 => ?_)
  refine jv_gR (jv_dk t_X11_sees (k := 5) rfl) fl_X11_131 (fun v3 => ?_)
  refine jv_iload_n (jv_dk t_X11_sees (k := 6) rfl) rfl rfl ?_
  refine jv_iaload (jv_dk t_X11_sees (k := 7) rfl) (fun v4 => ?_)
  refine jv_callV (en' := jeI) (pv := jpI) (As := [.int (a2), .int (v4)]) (S := []) (jv_dk t_X11_sees (k := 8) rfl) (fun _ => rfl) lk_X11_134 me_X5_numberOf mv_X5_numberOf ⟨by decide, by decide⟩ rfl rfl rfl (Nat.le_of_ble_eq_true rfl) (P_X5_numberOf X v1 a2 v4 h) (fun v5 h6 => ?_)
  show jv_O X M_X11_sees _ jeI 17 [some (.ref (a0)), some (.int (a1)), some (.int (a2))] [.int (v5)] h6 _
  refine jv_if_eq (tgt := 24) (jv_dk t_X11_sees (k := 9) rfl) rfl (fun c7 => ?_) (fun c7 => ?_)
  · refine jv_iconst (v := 0) (jv_dk t_X11_sees (k := 12) rfl) (by decide) ?_
    exact jv_iret (ty := .boolean) (jv_dk t_X11_sees (k := 13) rfl) rfl rfl rfl
  · show jv_O _ _ _ _ 20 _ _ _ _
    refine jv_iconst (v := 1) (jv_dk t_X11_sees (k := 10) rfl) (by decide) ?_
    refine jv_goto (tgt := 25) (jv_dk t_X11_sees (k := 11) rfl) rfl ?_
    exact jv_iret (ty := .boolean) (jv_dk t_X11_sees (k := 13) rfl) rfl rfl rfl
def t0_X11_canEnter : List (Nat × Instr × Nat) := [(0, .aload_n 0, 1), (1, .getfield 12, 3), (4, .iload_n 2, 1), (5, .invokevirtual 76, 3), (8, .ifCond .eq 17, 3), (11, .iload_n 1, 1), (12, .iload_n 2, 1), (13, .if_icmp .eq 12, 3), (16, .aload_n 0, 1), (17, .iload_n 1, 1), (18, .iload_n 2, 1), (19, .invokevirtual 150, 3), (22, .ifCond .ne 5, 3), (25, .iconst 0, 1), (26, .ireturn, 1), (27, .aload_n 0, 1), (28, .getfield 12, 3), (31, .getfield 131, 3), (34, .iload_n 2, 1), (35, .iaload, 1), (36, .istore 4, 2), (38, .aload_n 0, 1), (39, .getfield 12, 3), (42, .getfield 137, 3), (45, .iload_n 2, 1), (46, .iaload, 1), (47, .istore 5, 2), (49, .aload_n 0, 1), (50, .getfield 12, 3), (53, .getfield 156, 3), (56, .iload_n 2, 1), (57, .iaload, 1), (58, .istore 6, 2), (60, .iload_n 3, 1), (61, .tableswitch 156 0 2 #[27, 77, 107], 27), (88, .aload_n 0, 1), (89, .getfield 12, 3), (92, .getfield 159, 3), (95, .iload_n 1, 1), (96, .iaload, 1), (97, .iload 4, 2), (99, .if_icmp .eq 37, 3), (102, .aload_n 0, 1), (103, .getfield 21, 3), (106, .iload 4, 2), (108, .invokevirtual 162, 3), (111, .ifCond .ne 25, 3), (114, .aload_n 0, 1), (115, .iload_n 1, 1), (116, .aload_n 0, 1), (117, .getfield 21, 3), (120, .getfield 58, 3), (123, .iload 4, 2), (125, .iaload, 1), (126, .invokevirtual 153, 3), (129, .ifCond .eq 7, 3), (132, .iconst 1, 1), (133, .goto 4, 3), (136, .iconst 0, 1), (137, .ireturn, 1), (138, .aload_n 0, 1), (139, .getfield 12, 3), (142, .getfield 137, 3), (145, .iload_n 1, 1), (146, .iaload, 1), (147, .iload 5, 2), (149, .if_icmp .eq 17, 3), (152, .aload_n 0, 1), (153, .iload_n 1, 1), (154, .iload 5, 2), (156, .invokevirtual 153, 3), (159, .ifCond .eq 7, 3), (162, .iconst 1, 1), (163, .goto 4, 3), (166, .iconst 0, 1), (167, .ireturn, 1), (168, .aload_n 0, 1), (169, .getfield 12, 3), (172, .getfield 156, 3), (175, .iload_n 1, 1), (176, .iaload, 1), (177, .iload 6, 2), (179, .if_icmp .eq 36, 3), (182, .aload_n 0, 1), (183, .getfield 12, 3), (186, .iload_n 1, 1), (187, .invokevirtual 140, 3), (190, .ifCond .eq 25, 3), (193, .aload_n 0, 1), (194, .iload_n 1, 1), (195, .aload_n 0, 1), (196, .getfield 35, 3), (199, .getfield 65, 3), (202, .iload 6, 2), (204, .iaload, 1), (205, .invokevirtual 153, 3), (208, .ifCond .eq 7, 3), (211, .iconst 1, 1), (212, .goto 4, 3), (215, .iconst 0, 1), (216, .ireturn, 1), (217, .iconst 0, 1), (218, .ireturn, 1)]
theorem t_X11_canEnter : jv_dec cX11_canEnter t0_X11_canEnter = true := by decide +kernel
def M_X11_canEnter : jm := (yX11_canEnter, cX11_canEnter, 7, (some .boolean), 3, 70, [])
theorem lk_X11_150 : Cond.methodLink RX11 150 M_X11_sees.1 ∈ lw_tbl := (jv_at 771 (by decide +kernel))
set_option maxRecDepth 20000 in
theorem me_X11_sees : jv_me M_X11_sees 2 := ⟨(jv_in3 (List.mem_of_getElem? (i := 134) rfl)), (jv_at 163 (by decide +kernel)), ⟨by decide, by decide⟩, by decide +kernel⟩
theorem mv_X11_sees : jv_mv M_X11_sees := ⟨(jv_at 773 (by decide +kernel)), (jv_at 50 (by decide +kernel))⟩
def f_X11_canEnter (a0 : Nat) (a1 : Int32) (a2 : Int32) (a3 : Int32) (h : jh) : Option (Int32 × jh) :=
  gR h a0 9 0 fun v1 =>
  cV h v1 3 (f_X5_has v1 a2 h) fun v2 h3 =>
  (if v2 = 0 then
  some (0, h3)
  else
  (if a1 = a2 then
  some (0, h3)
  else
  cV h3 a0 9 (f_X11_sees a0 a1 a2 h3) fun v6 h7 =>
  (if ¬ v6 = 0 then
  gR h7 a0 9 0 fun v9 =>
  gR h7 v9 3 1 fun v10 =>
  aI h7 v10 a2 fun v11 =>
  gR h7 a0 9 0 fun v12 =>
  gR h7 v12 3 2 fun v13 =>
  aI h7 v13 a2 fun v14 =>
  gR h7 a0 9 0 fun v15 =>
  gR h7 v15 3 3 fun v16 =>
  aI h7 v16 a2 fun v17 =>
  (if a3 = 0 then
  gR h7 a0 9 0 fun v42 =>
  gR h7 v42 3 4 fun v43 =>
  aI h7 v43 a1 fun v44 =>
  (if v44 = v11 then
  some (0, h7)
  else
  gR h7 a0 9 1 fun v46 =>
  cV h7 v46 2 (f_X4_isDead v46 v11 h7) fun v47 h48 =>
  (if ¬ v47 = 0 then
  some (0, h48)
  else
  gR h48 a0 9 1 fun v50 =>
  gR h48 v50 2 1 fun v51 =>
  aI h48 v51 v11 fun v52 =>
  cV h48 a0 9 (f_X11_rules a0 a1 v52 h48) fun v53 h54 =>
  (if v53 = 0 then
  some (0, h54)
  else
  some (1, h54))))
  else
  (if a3 = 1 then
  gR h7 a0 9 0 fun v35 =>
  gR h7 v35 3 2 fun v36 =>
  aI h7 v36 a1 fun v37 =>
  (if v37 = v14 then
  some (0, h7)
  else
  cV h7 a0 9 (f_X11_rules a0 a1 v14 h7) fun v39 h40 =>
  (if v39 = 0 then
  some (0, h40)
  else
  some (1, h40)))
  else
  (if a3 = 2 then
  gR h7 a0 9 0 fun v21 =>
  gR h7 v21 3 3 fun v22 =>
  aI h7 v22 a1 fun v23 =>
  (if v23 = v17 then
  some (0, h7)
  else
  gR h7 a0 9 0 fun v25 =>
  cV h7 v25 3 (f_X5_hasPower v25 a1 h7) fun v26 h27 =>
  (if v26 = 0 then
  some (0, h27)
  else
  gR h27 a0 9 3 fun v29 =>
  gR h27 v29 0 1 fun v30 =>
  aI h27 v30 v17 fun v31 =>
  cV h27 a0 9 (f_X11_rules a0 a1 v31 h27) fun v32 h33 =>
  (if v32 = 0 then
  some (0, h33)
  else
  some (1, h33))))
  else
  some (0, h7))))
  else
  some (0, h7))))
theorem P_X11_canEnter (X : jx) (a0 : Nat) (a1 : Int32) (a2 : Int32) (a3 : Int32) (h : jh) : jv_P X M_X11_canEnter jeI [.ref (a0), .int (a1), .int (a2), .int (a3)] h (f_X11_canEnter a0 a1 a2 a3 h) := by
  refine jv_P.of (by decide) rfl (by simp [Value.category]) (Nat.le_of_ble_eq_true rfl) ?_
  show jv_O X M_X11_canEnter (h.1, h.2.1) jeI 0 [some (.ref (a0)), some (.int (a1)), some (.int (a2)), some (.int (a3)), none, none, none] [] h (f_X11_canEnter a0 a1 a2 a3 h)
  unfold f_X11_canEnter
  refine jv_aload_n (jv_dk t_X11_canEnter (k := 0) rfl) rfl rfl (Or.inr ⟨_, rfl⟩) ?_
  refine jv_gR (jv_dk t_X11_canEnter (k := 1) rfl) fl_X11_12 (fun v1 => ?_)
  refine jv_iload_n (jv_dk t_X11_canEnter (k := 2) rfl) rfl rfl ?_
  refine jv_callV (en' := jeI) (pv := jpI) (As := [.int (a2)]) (S := []) (jv_dk t_X11_canEnter (k := 3) rfl) (fun _ => rfl) lk_X11_76 me_X5_has mv_X5_has ⟨by decide, by decide⟩ rfl rfl rfl (Nat.le_of_ble_eq_true rfl) (P_X5_has X v1 a2 h) (fun v2 h3 => ?_)
  show jv_O X M_X11_canEnter _ jeI 8 [some (.ref (a0)), some (.int (a1)), some (.int (a2)), some (.int (a3)), none, none, none] [.int (v2)] h3 _
  refine jv_if_eq (tgt := 25) (jv_dk t_X11_canEnter (k := 4) rfl) rfl (fun c4 => ?_) (fun c4 => ?_)
  · refine jv_iconst (v := 0) (jv_dk t_X11_canEnter (k := 13) rfl) (by decide) ?_
    exact jv_iret (ty := .boolean) (jv_dk t_X11_canEnter (k := 14) rfl) rfl rfl rfl
  · show jv_O _ _ _ _ 11 _ _ _ _
    refine jv_iload_n (jv_dk t_X11_canEnter (k := 5) rfl) rfl rfl ?_
    refine jv_iload_n (jv_dk t_X11_canEnter (k := 6) rfl) rfl rfl ?_
    refine jv_icmp_eq (tgt := 25) (jv_dk t_X11_canEnter (k := 7) rfl) rfl (fun c5 => ?_) (fun c5 => ?_)
    · refine jv_iconst (v := 0) (jv_dk t_X11_canEnter (k := 13) rfl) (by decide) ?_
      exact jv_iret (ty := .boolean) (jv_dk t_X11_canEnter (k := 14) rfl) rfl rfl rfl
    · show jv_O _ _ _ _ 16 _ _ _ _
      refine jv_aload_n (jv_dk t_X11_canEnter (k := 8) rfl) rfl rfl (Or.inr ⟨_, rfl⟩) ?_
      refine jv_iload_n (jv_dk t_X11_canEnter (k := 9) rfl) rfl rfl ?_
      refine jv_iload_n (jv_dk t_X11_canEnter (k := 10) rfl) rfl rfl ?_
      refine jv_callV (en' := jeI) (pv := jpI) (As := [.int (a1), .int (a2)]) (S := []) (jv_dk t_X11_canEnter (k := 11) rfl) (fun _ => rfl) (Or.inl lk_X11_150) me_X11_sees mv_X11_sees ⟨by decide, by decide⟩ rfl rfl rfl (Nat.le_of_ble_eq_true rfl) (P_X11_sees X a0 a1 a2 h3) (fun v6 h7 => ?_)
      show jv_O X M_X11_canEnter _ jeI 22 [some (.ref (a0)), some (.int (a1)), some (.int (a2)), some (.int (a3)), none, none, none] [.int (v6)] h7 _
      refine jv_if_ne (tgt := 27) (jv_dk t_X11_canEnter (k := 12) rfl) rfl (fun c8 => ?_) (fun c8 => ?_)
      · refine jv_aload_n (jv_dk t_X11_canEnter (k := 15) rfl) rfl rfl (Or.inr ⟨_, rfl⟩) ?_
        refine jv_gR (jv_dk t_X11_canEnter (k := 16) rfl) fl_X11_12 (fun v9 => ?_)
        refine jv_gR (jv_dk t_X11_canEnter (k := 17) rfl) fl_X11_131 (fun v10 => ?_)
        refine jv_iload_n (jv_dk t_X11_canEnter (k := 18) rfl) rfl rfl ?_
        refine jv_iaload (jv_dk t_X11_canEnter (k := 19) rfl) (fun v11 => ?_)
        refine jv_istore (L' := [some (.ref (a0)), some (.int (a1)), some (.int (a2)), some (.int (a3)), some (.int (v11)), none, none]) (jv_dk t_X11_canEnter (k := 20) rfl) (Nat.le_of_ble_eq_true rfl) rfl ?_
        refine jv_aload_n (jv_dk t_X11_canEnter (k := 21) rfl) rfl rfl (Or.inr ⟨_, rfl⟩) ?_
        refine jv_gR (jv_dk t_X11_canEnter (k := 22) rfl) fl_X11_12 (fun v12 => ?_)
        refine jv_gR (jv_dk t_X11_canEnter (k := 23) rfl) fl_X11_137 (fun v13 => ?_)
        refine jv_iload_n (jv_dk t_X11_canEnter (k := 24) rfl) rfl rfl ?_
        refine jv_iaload (jv_dk t_X11_canEnter (k := 25) rfl) (fun v14 => ?_)
        refine jv_istore (L' := [some (.ref (a0)), some (.int (a1)), some (.int (a2)), some (.int (a3)), some (.int (v11)), some (.int (v14)), none]) (jv_dk t_X11_canEnter (k := 26) rfl) (Nat.le_of_ble_eq_true rfl) rfl ?_
        refine jv_aload_n (jv_dk t_X11_canEnter (k := 27) rfl) rfl rfl (Or.inr ⟨_, rfl⟩) ?_
        refine jv_gR (jv_dk t_X11_canEnter (k := 28) rfl) fl_X11_12 (fun v15 => ?_)
        refine jv_gR (jv_dk t_X11_canEnter (k := 29) rfl) fl_X11_156 (fun v16 => ?_)
        refine jv_iload_n (jv_dk t_X11_canEnter (k := 30) rfl) rfl rfl ?_
        refine jv_iaload (jv_dk t_X11_canEnter (k := 31) rfl) (fun v17 => ?_)
        refine jv_istore (L' := [some (.ref (a0)), some (.int (a1)), some (.int (a2)), some (.int (a3)), some (.int (v11)), some (.int (v14)), some (.int (v17))]) (jv_dk t_X11_canEnter (k := 32) rfl) (Nat.le_of_ble_eq_true rfl) rfl ?_
        refine jv_iload_n (jv_dk t_X11_canEnter (k := 33) rfl) rfl rfl ?_
        by_cases c18 : a3 = 0
        · rw [if_pos c18]
          refine jv_tbl (tgt := 88) (jv_dk t_X11_canEnter (k := 34) rfl) (by rw [c18] <;> decide) (by rw [c18] <;> decide) (by rw [c18] <;> rfl) rfl ?_
          refine jv_aload_n (jv_dk t_X11_canEnter (k := 35) rfl) rfl rfl (Or.inr ⟨_, rfl⟩) ?_
          refine jv_gR (jv_dk t_X11_canEnter (k := 36) rfl) fl_X11_12 (fun v42 => ?_)
          refine jv_gR (jv_dk t_X11_canEnter (k := 37) rfl) fl_X11_159 (fun v43 => ?_)
          refine jv_iload_n (jv_dk t_X11_canEnter (k := 38) rfl) rfl rfl ?_
          refine jv_iaload (jv_dk t_X11_canEnter (k := 39) rfl) (fun v44 => ?_)
          refine jv_iload (jv_dk t_X11_canEnter (k := 40) rfl) rfl ?_
          refine jv_icmp_eq (tgt := 136) (jv_dk t_X11_canEnter (k := 41) rfl) rfl (fun c45 => ?_) (fun c45 => ?_)
          · refine jv_iconst (v := 0) (jv_dk t_X11_canEnter (k := 58) rfl) (by decide) ?_
            exact jv_iret (ty := .boolean) (jv_dk t_X11_canEnter (k := 59) rfl) rfl rfl rfl
          · show jv_O _ _ _ _ 102 _ _ _ _
            refine jv_aload_n (jv_dk t_X11_canEnter (k := 42) rfl) rfl rfl (Or.inr ⟨_, rfl⟩) ?_
            refine jv_gR (jv_dk t_X11_canEnter (k := 43) rfl) fl_X11_21 (fun v46 => ?_)
            refine jv_iload (jv_dk t_X11_canEnter (k := 44) rfl) rfl ?_
            refine jv_callV (en' := jeI) (pv := jpI) (As := [.int (v11)]) (S := []) (jv_dk t_X11_canEnter (k := 45) rfl) (fun _ => rfl) lk_X11_162 me_X4_isDead mv_X4_isDead ⟨by decide, by decide⟩ rfl rfl rfl (Nat.le_of_ble_eq_true rfl) (P_X4_isDead X v46 v11 h7) (fun v47 h48 => ?_)
            show jv_O X M_X11_canEnter _ jeI 111 [some (.ref (a0)), some (.int (a1)), some (.int (a2)), some (.int (a3)), some (.int (v11)), some (.int (v14)), some (.int (v17))] [.int (v47)] h48 _
            refine jv_if_ne (tgt := 136) (jv_dk t_X11_canEnter (k := 46) rfl) rfl (fun c49 => ?_) (fun c49 => ?_)
            · refine jv_iconst (v := 0) (jv_dk t_X11_canEnter (k := 58) rfl) (by decide) ?_
              exact jv_iret (ty := .boolean) (jv_dk t_X11_canEnter (k := 59) rfl) rfl rfl rfl
            · show jv_O _ _ _ _ 114 _ _ _ _
              refine jv_aload_n (jv_dk t_X11_canEnter (k := 47) rfl) rfl rfl (Or.inr ⟨_, rfl⟩) ?_
              refine jv_iload_n (jv_dk t_X11_canEnter (k := 48) rfl) rfl rfl ?_
              refine jv_aload_n (jv_dk t_X11_canEnter (k := 49) rfl) rfl rfl (Or.inr ⟨_, rfl⟩) ?_
              refine jv_gR (jv_dk t_X11_canEnter (k := 50) rfl) fl_X11_21 (fun v50 => ?_)
              refine jv_gR (jv_dk t_X11_canEnter (k := 51) rfl) fl_X11_58 (fun v51 => ?_)
              refine jv_iload (jv_dk t_X11_canEnter (k := 52) rfl) rfl ?_
              refine jv_iaload (jv_dk t_X11_canEnter (k := 53) rfl) (fun v52 => ?_)
              refine jv_callV (en' := jeI) (pv := jpI) (As := [.int (a1), .int (v52)]) (S := []) (jv_dk t_X11_canEnter (k := 54) rfl) (fun _ => rfl) (Or.inl lk_X11_153) me_X11_rules mv_X11_rules ⟨by decide, by decide⟩ rfl rfl rfl (Nat.le_of_ble_eq_true rfl) (P_X11_rules X a0 a1 v52 h48) (fun v53 h54 => ?_)
              show jv_O X M_X11_canEnter _ jeI 129 [some (.ref (a0)), some (.int (a1)), some (.int (a2)), some (.int (a3)), some (.int (v11)), some (.int (v14)), some (.int (v17))] [.int (v53)] h54 _
              refine jv_if_eq (tgt := 136) (jv_dk t_X11_canEnter (k := 55) rfl) rfl (fun c55 => ?_) (fun c55 => ?_)
              · refine jv_iconst (v := 0) (jv_dk t_X11_canEnter (k := 58) rfl) (by decide) ?_
                exact jv_iret (ty := .boolean) (jv_dk t_X11_canEnter (k := 59) rfl) rfl rfl rfl
              · show jv_O _ _ _ _ 132 _ _ _ _
                refine jv_iconst (v := 1) (jv_dk t_X11_canEnter (k := 56) rfl) (by decide) ?_
                refine jv_goto (tgt := 137) (jv_dk t_X11_canEnter (k := 57) rfl) rfl ?_
                exact jv_iret (ty := .boolean) (jv_dk t_X11_canEnter (k := 59) rfl) rfl rfl rfl
        rw [if_neg c18]
        by_cases c19 : a3 = 1
        · rw [if_pos c19]
          refine jv_tbl (tgt := 138) (jv_dk t_X11_canEnter (k := 34) rfl) (by rw [c19] <;> decide) (by rw [c19] <;> decide) (by rw [c19] <;> rfl) rfl ?_
          refine jv_aload_n (jv_dk t_X11_canEnter (k := 60) rfl) rfl rfl (Or.inr ⟨_, rfl⟩) ?_
          refine jv_gR (jv_dk t_X11_canEnter (k := 61) rfl) fl_X11_12 (fun v35 => ?_)
          refine jv_gR (jv_dk t_X11_canEnter (k := 62) rfl) fl_X11_137 (fun v36 => ?_)
          refine jv_iload_n (jv_dk t_X11_canEnter (k := 63) rfl) rfl rfl ?_
          refine jv_iaload (jv_dk t_X11_canEnter (k := 64) rfl) (fun v37 => ?_)
          refine jv_iload (jv_dk t_X11_canEnter (k := 65) rfl) rfl ?_
          refine jv_icmp_eq (tgt := 166) (jv_dk t_X11_canEnter (k := 66) rfl) rfl (fun c38 => ?_) (fun c38 => ?_)
          · refine jv_iconst (v := 0) (jv_dk t_X11_canEnter (k := 74) rfl) (by decide) ?_
            exact jv_iret (ty := .boolean) (jv_dk t_X11_canEnter (k := 75) rfl) rfl rfl rfl
          · show jv_O _ _ _ _ 152 _ _ _ _
            refine jv_aload_n (jv_dk t_X11_canEnter (k := 67) rfl) rfl rfl (Or.inr ⟨_, rfl⟩) ?_
            refine jv_iload_n (jv_dk t_X11_canEnter (k := 68) rfl) rfl rfl ?_
            refine jv_iload (jv_dk t_X11_canEnter (k := 69) rfl) rfl ?_
            refine jv_callV (en' := jeI) (pv := jpI) (As := [.int (a1), .int (v14)]) (S := []) (jv_dk t_X11_canEnter (k := 70) rfl) (fun _ => rfl) (Or.inl lk_X11_153) me_X11_rules mv_X11_rules ⟨by decide, by decide⟩ rfl rfl rfl (Nat.le_of_ble_eq_true rfl) (P_X11_rules X a0 a1 v14 h7) (fun v39 h40 => ?_)
            show jv_O X M_X11_canEnter _ jeI 159 [some (.ref (a0)), some (.int (a1)), some (.int (a2)), some (.int (a3)), some (.int (v11)), some (.int (v14)), some (.int (v17))] [.int (v39)] h40 _
            refine jv_if_eq (tgt := 166) (jv_dk t_X11_canEnter (k := 71) rfl) rfl (fun c41 => ?_) (fun c41 => ?_)
            · refine jv_iconst (v := 0) (jv_dk t_X11_canEnter (k := 74) rfl) (by decide) ?_
              exact jv_iret (ty := .boolean) (jv_dk t_X11_canEnter (k := 75) rfl) rfl rfl rfl
            · show jv_O _ _ _ _ 162 _ _ _ _
              refine jv_iconst (v := 1) (jv_dk t_X11_canEnter (k := 72) rfl) (by decide) ?_
              refine jv_goto (tgt := 167) (jv_dk t_X11_canEnter (k := 73) rfl) rfl ?_
              exact jv_iret (ty := .boolean) (jv_dk t_X11_canEnter (k := 75) rfl) rfl rfl rfl
        rw [if_neg c19]
        by_cases c20 : a3 = 2
        · rw [if_pos c20]
          refine jv_tbl (tgt := 168) (jv_dk t_X11_canEnter (k := 34) rfl) (by rw [c20] <;> decide) (by rw [c20] <;> decide) (by rw [c20] <;> rfl) rfl ?_
          refine jv_aload_n (jv_dk t_X11_canEnter (k := 76) rfl) rfl rfl (Or.inr ⟨_, rfl⟩) ?_
          refine jv_gR (jv_dk t_X11_canEnter (k := 77) rfl) fl_X11_12 (fun v21 => ?_)
          refine jv_gR (jv_dk t_X11_canEnter (k := 78) rfl) fl_X11_156 (fun v22 => ?_)
          refine jv_iload_n (jv_dk t_X11_canEnter (k := 79) rfl) rfl rfl ?_
          refine jv_iaload (jv_dk t_X11_canEnter (k := 80) rfl) (fun v23 => ?_)
          refine jv_iload (jv_dk t_X11_canEnter (k := 81) rfl) rfl ?_
          refine jv_icmp_eq (tgt := 215) (jv_dk t_X11_canEnter (k := 82) rfl) rfl (fun c24 => ?_) (fun c24 => ?_)
          · refine jv_iconst (v := 0) (jv_dk t_X11_canEnter (k := 99) rfl) (by decide) ?_
            exact jv_iret (ty := .boolean) (jv_dk t_X11_canEnter (k := 100) rfl) rfl rfl rfl
          · show jv_O _ _ _ _ 182 _ _ _ _
            refine jv_aload_n (jv_dk t_X11_canEnter (k := 83) rfl) rfl rfl (Or.inr ⟨_, rfl⟩) ?_
            refine jv_gR (jv_dk t_X11_canEnter (k := 84) rfl) fl_X11_12 (fun v25 => ?_)
            refine jv_iload_n (jv_dk t_X11_canEnter (k := 85) rfl) rfl rfl ?_
            refine jv_callV (en' := jeI) (pv := jpI) (As := [.int (a1)]) (S := []) (jv_dk t_X11_canEnter (k := 86) rfl) (fun _ => rfl) lk_X11_140 me_X5_hasPower mv_X5_hasPower ⟨by decide, by decide⟩ rfl rfl rfl (Nat.le_of_ble_eq_true rfl) (P_X5_hasPower X v25 a1 h7) (fun v26 h27 => ?_)
            show jv_O X M_X11_canEnter _ jeI 190 [some (.ref (a0)), some (.int (a1)), some (.int (a2)), some (.int (a3)), some (.int (v11)), some (.int (v14)), some (.int (v17))] [.int (v26)] h27 _
            refine jv_if_eq (tgt := 215) (jv_dk t_X11_canEnter (k := 87) rfl) rfl (fun c28 => ?_) (fun c28 => ?_)
            · refine jv_iconst (v := 0) (jv_dk t_X11_canEnter (k := 99) rfl) (by decide) ?_
              exact jv_iret (ty := .boolean) (jv_dk t_X11_canEnter (k := 100) rfl) rfl rfl rfl
            · show jv_O _ _ _ _ 193 _ _ _ _
              refine jv_aload_n (jv_dk t_X11_canEnter (k := 88) rfl) rfl rfl (Or.inr ⟨_, rfl⟩) ?_
              refine jv_iload_n (jv_dk t_X11_canEnter (k := 89) rfl) rfl rfl ?_
              refine jv_aload_n (jv_dk t_X11_canEnter (k := 90) rfl) rfl rfl (Or.inr ⟨_, rfl⟩) ?_
              refine jv_gR (jv_dk t_X11_canEnter (k := 91) rfl) fl_X11_35 (fun v29 => ?_)
              refine jv_gR (jv_dk t_X11_canEnter (k := 92) rfl) fl_X11_65 (fun v30 => ?_)
              refine jv_iload (jv_dk t_X11_canEnter (k := 93) rfl) rfl ?_
              refine jv_iaload (jv_dk t_X11_canEnter (k := 94) rfl) (fun v31 => ?_)
              refine jv_callV (en' := jeI) (pv := jpI) (As := [.int (a1), .int (v31)]) (S := []) (jv_dk t_X11_canEnter (k := 95) rfl) (fun _ => rfl) (Or.inl lk_X11_153) me_X11_rules mv_X11_rules ⟨by decide, by decide⟩ rfl rfl rfl (Nat.le_of_ble_eq_true rfl) (P_X11_rules X a0 a1 v31 h27) (fun v32 h33 => ?_)
              show jv_O X M_X11_canEnter _ jeI 208 [some (.ref (a0)), some (.int (a1)), some (.int (a2)), some (.int (a3)), some (.int (v11)), some (.int (v14)), some (.int (v17))] [.int (v32)] h33 _
              refine jv_if_eq (tgt := 215) (jv_dk t_X11_canEnter (k := 96) rfl) rfl (fun c34 => ?_) (fun c34 => ?_)
              · refine jv_iconst (v := 0) (jv_dk t_X11_canEnter (k := 99) rfl) (by decide) ?_
                exact jv_iret (ty := .boolean) (jv_dk t_X11_canEnter (k := 100) rfl) rfl rfl rfl
              · show jv_O _ _ _ _ 211 _ _ _ _
                refine jv_iconst (v := 1) (jv_dk t_X11_canEnter (k := 97) rfl) (by decide) ?_
                refine jv_goto (tgt := 216) (jv_dk t_X11_canEnter (k := 98) rfl) rfl ?_
                exact jv_iret (ty := .boolean) (jv_dk t_X11_canEnter (k := 100) rfl) rfl rfl rfl
        rw [if_neg c20]
        have e_c18 := jv_ne (x := a3) (k := 0) (by decide) (by decide) c18
        have e_c19 := jv_ne (x := a3) (k := 1) (by decide) (by decide) c19
        have e_c20 := jv_ne (x := a3) (k := 2) (by decide) (by decide) c20
        refine jv_tblOut (tgt := 217) (jv_dk t_X11_canEnter (k := 34) rfl) (by omega) rfl ?_
        refine jv_iconst (v := 0) (jv_dk t_X11_canEnter (k := 101) rfl) (by decide) ?_
        exact jv_iret (ty := .boolean) (jv_dk t_X11_canEnter (k := 102) rfl) rfl rfl rfl
      · show jv_O _ _ _ _ 25 _ _ _ _
        refine jv_iconst (v := 0) (jv_dk t_X11_canEnter (k := 13) rfl) (by decide) ?_
        exact jv_iret (ty := .boolean) (jv_dk t_X11_canEnter (k := 14) rfl) rfl rfl rfl
def t0_X11_goInto : List (Nat × Instr × Nat) := [(0, .aload_n 0, 1), (1, .iload_n 1, 1), (2, .iload_n 2, 1), (3, .iload_n 3, 1), (4, .invokevirtual 240, 3), (7, .ifCond .ne 5, 3), (10, .iconst (-1), 1), (11, .ireturn, 1), (12, .iload_n 3, 1), (13, .lookupswitch 92 #[(0, 27), (1, 55)], 27), (40, .aload_n 0, 1), (41, .getfield 12, 3), (44, .getfield 159, 3), (47, .iload_n 1, 1), (48, .aload_n 0, 1), (49, .getfield 12, 3), (52, .getfield 131, 3), (55, .iload_n 2, 1), (56, .iaload, 1), (57, .iastore, 1), (58, .aload_n 0, 1), (59, .getfield 12, 3), (62, .getfield 159, 3), (65, .iload_n 1, 1), (66, .iaload, 1), (67, .ireturn, 1), (68, .aload_n 0, 1), (69, .getfield 12, 3), (72, .getfield 137, 3), (75, .iload_n 1, 1), (76, .aload_n 0, 1), (77, .getfield 12, 3), (80, .getfield 137, 3), (83, .iload_n 2, 1), (84, .iaload, 1), (85, .iastore, 1), (86, .aload_n 0, 1), (87, .getfield 12, 3), (90, .iload_n 1, 1), (91, .iconst 1, 1), (92, .invokevirtual 198, 3), (95, .aload_n 0, 1), (96, .getfield 12, 3), (99, .getfield 137, 3), (102, .iload_n 1, 1), (103, .iaload, 1), (104, .ireturn, 1), (105, .aload_n 0, 1), (106, .getfield 12, 3), (109, .getfield 156, 3), (112, .iload_n 1, 1), (113, .aload_n 0, 1), (114, .getfield 12, 3), (117, .getfield 156, 3), (120, .iload_n 2, 1), (121, .iaload, 1), (122, .iastore, 1), (123, .aload_n 0, 1), (124, .getfield 12, 3), (127, .getfield 156, 3), (130, .iload_n 1, 1), (131, .iaload, 1), (132, .ireturn, 1)]
theorem t_X11_goInto : jv_dec cX11_goInto t0_X11_goInto = true := by decide +kernel
def M_X11_goInto : jm := (yX11_goInto, cX11_goInto, 4, (some .int), 4, 96, [])
theorem lk_X11_240 : Cond.methodLink RX11 240 M_X11_canEnter.1 ∈ lw_tbl := (jv_at 767 (by decide +kernel))
set_option maxRecDepth 20000 in
theorem me_X11_canEnter : jv_me M_X11_canEnter 3 := ⟨(jv_in3 (List.mem_of_getElem? (i := 130) rfl)), (jv_at 163 (by decide +kernel)), ⟨by decide, by decide⟩, by decide +kernel⟩
theorem mv_X11_canEnter : jv_mv M_X11_canEnter := ⟨(jv_at 769 (by decide +kernel)), (jv_at 49 (by decide +kernel))⟩
def f_X11_goInto (a0 : Nat) (a1 : Int32) (a2 : Int32) (a3 : Int32) (h : jh) : Option (Int32 × jh) :=
  cV h a0 9 (f_X11_canEnter a0 a1 a2 a3 h) fun v1 h2 =>
  (if ¬ v1 = 0 then
  (if a3 = 0 then
  gR h2 a0 9 0 fun v26 =>
  gR h2 v26 3 4 fun v27 =>
  gR h2 a0 9 0 fun v28 =>
  gR h2 v28 3 1 fun v29 =>
  aI h2 v29 a2 fun v30 =>
  sI h2 v27 a1 v30 fun h31 =>
  gR h31 a0 9 0 fun v32 =>
  gR h31 v32 3 4 fun v33 =>
  aI h31 v33 a1 fun v34 =>
  some (v34, h31)
  else
  (if a3 = 1 then
  gR h2 a0 9 0 fun v15 =>
  gR h2 v15 3 2 fun v16 =>
  gR h2 a0 9 0 fun v17 =>
  gR h2 v17 3 2 fun v18 =>
  aI h2 v18 a2 fun v19 =>
  sI h2 v16 a1 v19 fun h20 =>
  gR h20 a0 9 0 fun v21 =>
  cV h20 v21 3 (f_X5_setPower v21 a1 1 h20) fun _ h22 =>
  gR h22 a0 9 0 fun v23 =>
  gR h22 v23 3 2 fun v24 =>
  aI h22 v24 a1 fun v25 =>
  some (v25, h22)
  else
  gR h2 a0 9 0 fun v6 =>
  gR h2 v6 3 3 fun v7 =>
  gR h2 a0 9 0 fun v8 =>
  gR h2 v8 3 3 fun v9 =>
  aI h2 v9 a2 fun v10 =>
  sI h2 v7 a1 v10 fun h11 =>
  gR h11 a0 9 0 fun v12 =>
  gR h11 v12 3 3 fun v13 =>
  aI h11 v13 a1 fun v14 =>
  some (v14, h11)))
  else
  some ((-1), h2))
theorem P_X11_goInto (X : jx) (a0 : Nat) (a1 : Int32) (a2 : Int32) (a3 : Int32) (h : jh) : jv_P X M_X11_goInto jeI [.ref (a0), .int (a1), .int (a2), .int (a3)] h (f_X11_goInto a0 a1 a2 a3 h) := by
  refine jv_P.of (by decide) rfl (by simp [Value.category]) (Nat.le_of_ble_eq_true rfl) ?_
  show jv_O X M_X11_goInto (h.1, h.2.1) jeI 0 [some (.ref (a0)), some (.int (a1)), some (.int (a2)), some (.int (a3))] [] h (f_X11_goInto a0 a1 a2 a3 h)
  unfold f_X11_goInto
  refine jv_aload_n (jv_dk t_X11_goInto (k := 0) rfl) rfl rfl (Or.inr ⟨_, rfl⟩) ?_
  refine jv_iload_n (jv_dk t_X11_goInto (k := 1) rfl) rfl rfl ?_
  refine jv_iload_n (jv_dk t_X11_goInto (k := 2) rfl) rfl rfl ?_
  refine jv_iload_n (jv_dk t_X11_goInto (k := 3) rfl) rfl rfl ?_
  refine jv_callV (en' := jeI) (pv := jpI) (As := [.int (a1), .int (a2), .int (a3)]) (S := []) (jv_dk t_X11_goInto (k := 4) rfl) (fun _ => rfl) (Or.inl lk_X11_240) me_X11_canEnter mv_X11_canEnter ⟨by decide, by decide⟩ rfl rfl rfl (Nat.le_of_ble_eq_true rfl) (P_X11_canEnter X a0 a1 a2 a3 h) (fun v1 h2 => ?_)
  show jv_O X M_X11_goInto _ jeI 7 [some (.ref (a0)), some (.int (a1)), some (.int (a2)), some (.int (a3))] [.int (v1)] h2 _
  refine jv_if_ne (tgt := 12) (jv_dk t_X11_goInto (k := 5) rfl) rfl (fun c3 => ?_) (fun c3 => ?_)
  · refine jv_iload_n (jv_dk t_X11_goInto (k := 8) rfl) rfl rfl ?_
    by_cases c4 : a3 = 0
    · rw [if_pos c4]
      refine jv_lkp (tgt := 40) (jv_dk t_X11_goInto (k := 9) rfl) (by decide) (by rw [c4] <;> rfl) rfl ?_
      refine jv_aload_n (jv_dk t_X11_goInto (k := 10) rfl) rfl rfl (Or.inr ⟨_, rfl⟩) ?_
      refine jv_gR (jv_dk t_X11_goInto (k := 11) rfl) fl_X11_12 (fun v26 => ?_)
      refine jv_gR (jv_dk t_X11_goInto (k := 12) rfl) fl_X11_159 (fun v27 => ?_)
      refine jv_iload_n (jv_dk t_X11_goInto (k := 13) rfl) rfl rfl ?_
      refine jv_aload_n (jv_dk t_X11_goInto (k := 14) rfl) rfl rfl (Or.inr ⟨_, rfl⟩) ?_
      refine jv_gR (jv_dk t_X11_goInto (k := 15) rfl) fl_X11_12 (fun v28 => ?_)
      refine jv_gR (jv_dk t_X11_goInto (k := 16) rfl) fl_X11_131 (fun v29 => ?_)
      refine jv_iload_n (jv_dk t_X11_goInto (k := 17) rfl) rfl rfl ?_
      refine jv_iaload (jv_dk t_X11_goInto (k := 18) rfl) (fun v30 => ?_)
      refine jv_iastore (jv_dk t_X11_goInto (k := 19) rfl) (fun h31 => ?_)
      refine jv_aload_n (jv_dk t_X11_goInto (k := 20) rfl) rfl rfl (Or.inr ⟨_, rfl⟩) ?_
      refine jv_gR (jv_dk t_X11_goInto (k := 21) rfl) fl_X11_12 (fun v32 => ?_)
      refine jv_gR (jv_dk t_X11_goInto (k := 22) rfl) fl_X11_159 (fun v33 => ?_)
      refine jv_iload_n (jv_dk t_X11_goInto (k := 23) rfl) rfl rfl ?_
      refine jv_iaload (jv_dk t_X11_goInto (k := 24) rfl) (fun v34 => ?_)
      exact jv_iret (ty := .int) (jv_dk t_X11_goInto (k := 25) rfl) rfl rfl rfl
    rw [if_neg c4]
    by_cases c5 : a3 = 1
    · rw [if_pos c5]
      refine jv_lkp (tgt := 68) (jv_dk t_X11_goInto (k := 9) rfl) (by decide) (by rw [c5] <;> rfl) rfl ?_
      refine jv_aload_n (jv_dk t_X11_goInto (k := 26) rfl) rfl rfl (Or.inr ⟨_, rfl⟩) ?_
      refine jv_gR (jv_dk t_X11_goInto (k := 27) rfl) fl_X11_12 (fun v15 => ?_)
      refine jv_gR (jv_dk t_X11_goInto (k := 28) rfl) fl_X11_137 (fun v16 => ?_)
      refine jv_iload_n (jv_dk t_X11_goInto (k := 29) rfl) rfl rfl ?_
      refine jv_aload_n (jv_dk t_X11_goInto (k := 30) rfl) rfl rfl (Or.inr ⟨_, rfl⟩) ?_
      refine jv_gR (jv_dk t_X11_goInto (k := 31) rfl) fl_X11_12 (fun v17 => ?_)
      refine jv_gR (jv_dk t_X11_goInto (k := 32) rfl) fl_X11_137 (fun v18 => ?_)
      refine jv_iload_n (jv_dk t_X11_goInto (k := 33) rfl) rfl rfl ?_
      refine jv_iaload (jv_dk t_X11_goInto (k := 34) rfl) (fun v19 => ?_)
      refine jv_iastore (jv_dk t_X11_goInto (k := 35) rfl) (fun h20 => ?_)
      refine jv_aload_n (jv_dk t_X11_goInto (k := 36) rfl) rfl rfl (Or.inr ⟨_, rfl⟩) ?_
      refine jv_gR (jv_dk t_X11_goInto (k := 37) rfl) fl_X11_12 (fun v21 => ?_)
      refine jv_iload_n (jv_dk t_X11_goInto (k := 38) rfl) rfl rfl ?_
      refine jv_iconst (v := 1) (jv_dk t_X11_goInto (k := 39) rfl) (by decide) ?_
      refine jv_callV (en' := jeV) (pv := jpV) (As := [.int (a1), .int (1)]) (S := []) (jv_dk t_X11_goInto (k := 40) rfl) (fun _ => rfl) lk_X11_198 me_X5_setPower mv_X5_setPower ⟨by decide, by decide⟩ rfl rfl rfl (Nat.le_of_ble_eq_true rfl) (P_X5_setPower X v21 a1 1 h20) (fun _ h22 => ?_)
      show jv_O X M_X11_goInto _ jeI 95 [some (.ref (a0)), some (.int (a1)), some (.int (a2)), some (.int (a3))] [] h22 _
      refine jv_aload_n (jv_dk t_X11_goInto (k := 41) rfl) rfl rfl (Or.inr ⟨_, rfl⟩) ?_
      refine jv_gR (jv_dk t_X11_goInto (k := 42) rfl) fl_X11_12 (fun v23 => ?_)
      refine jv_gR (jv_dk t_X11_goInto (k := 43) rfl) fl_X11_137 (fun v24 => ?_)
      refine jv_iload_n (jv_dk t_X11_goInto (k := 44) rfl) rfl rfl ?_
      refine jv_iaload (jv_dk t_X11_goInto (k := 45) rfl) (fun v25 => ?_)
      exact jv_iret (ty := .int) (jv_dk t_X11_goInto (k := 46) rfl) rfl rfl rfl
    rw [if_neg c5]
    have e_c4 := jv_ne (x := a3) (k := 0) (by decide) (by decide) c4
    have e_c5 := jv_ne (x := a3) (k := 1) (by decide) (by decide) c5
    refine jv_lkp (tgt := 105) (jv_dk t_X11_goInto (k := 9) rfl) (by decide) (jv_lk2 e_c4 e_c5) rfl ?_
    refine jv_aload_n (jv_dk t_X11_goInto (k := 47) rfl) rfl rfl (Or.inr ⟨_, rfl⟩) ?_
    refine jv_gR (jv_dk t_X11_goInto (k := 48) rfl) fl_X11_12 (fun v6 => ?_)
    refine jv_gR (jv_dk t_X11_goInto (k := 49) rfl) fl_X11_156 (fun v7 => ?_)
    refine jv_iload_n (jv_dk t_X11_goInto (k := 50) rfl) rfl rfl ?_
    refine jv_aload_n (jv_dk t_X11_goInto (k := 51) rfl) rfl rfl (Or.inr ⟨_, rfl⟩) ?_
    refine jv_gR (jv_dk t_X11_goInto (k := 52) rfl) fl_X11_12 (fun v8 => ?_)
    refine jv_gR (jv_dk t_X11_goInto (k := 53) rfl) fl_X11_156 (fun v9 => ?_)
    refine jv_iload_n (jv_dk t_X11_goInto (k := 54) rfl) rfl rfl ?_
    refine jv_iaload (jv_dk t_X11_goInto (k := 55) rfl) (fun v10 => ?_)
    refine jv_iastore (jv_dk t_X11_goInto (k := 56) rfl) (fun h11 => ?_)
    refine jv_aload_n (jv_dk t_X11_goInto (k := 57) rfl) rfl rfl (Or.inr ⟨_, rfl⟩) ?_
    refine jv_gR (jv_dk t_X11_goInto (k := 58) rfl) fl_X11_12 (fun v12 => ?_)
    refine jv_gR (jv_dk t_X11_goInto (k := 59) rfl) fl_X11_156 (fun v13 => ?_)
    refine jv_iload_n (jv_dk t_X11_goInto (k := 60) rfl) rfl rfl ?_
    refine jv_iaload (jv_dk t_X11_goInto (k := 61) rfl) (fun v14 => ?_)
    exact jv_iret (ty := .int) (jv_dk t_X11_goInto (k := 62) rfl) rfl rfl rfl
  · show jv_O _ _ _ _ 10 _ _ _ _
    refine jv_iconst (v := (-1)) (jv_dk t_X11_goInto (k := 6) rfl) (by decide) ?_
    exact jv_iret (ty := .int) (jv_dk t_X11_goInto (k := 7) rfl) rfl rfl rfl
def t0_X11_adoptOrphans : List (Nat × Instr × Nat) := [(0, .iconst 0, 1), (1, .istore_n 2, 1), (2, .iload_n 2, 1), (3, .bipush 16, 2), (5, .if_icmp .ge 67, 3), (8, .aload_n 0, 1), (9, .getfield 12, 3), (12, .getfield 266, 3), (15, .iload_n 2, 1), (16, .iaload, 1), (17, .istore_n 3, 1), (18, .aload_n 0, 1), (19, .getfield 12, 3), (22, .iload_n 2, 1), (23, .invokevirtual 76, 3), (26, .ifCond .eq 40, 3), (29, .iload_n 1, 1), (30, .iload_n 3, 1), (31, .invokestatic 253, 3), (34, .ifCond .eq 32, 3), (37, .aload_n 0, 1), (38, .getfield 12, 3), (41, .getfield 266, 3), (44, .iload_n 2, 1), (45, .iconst 0, 1), (46, .aload_n 0, 1), (47, .getfield 21, 3), (50, .aload_n 0, 1), (51, .getfield 12, 3), (54, .getfield 131, 3), (57, .iload_n 3, 1), (58, .iaload, 1), (59, .invokevirtual 66, 3), (62, .invokestatic 269, 3), (65, .iastore, 1), (66, .iinc 2 1, 3), (69, .goto (-67), 3), (72, .return_, 1)]
theorem t_X11_adoptOrphans : jv_dec cX11_adoptOrphans t0_X11_adoptOrphans = true := by decide +kernel
def M_X11_adoptOrphans : jm := (yX11_adoptOrphans, cX11_adoptOrphans, 4, none, 2, 42, [])
theorem fl_X11_266 : jv_F RX11 266 3 0 RX5 TX5 9 := ⟨rfl, by decide, inX5, Or.inr ⟨"SpaceWarden", (jv_at 216 (by decide +kernel))⟩⟩
theorem lk_X11_253 : jv_lk RX11 253 M_X12_holds := Or.inr ⟨"SpaceWarden", (jv_at 792 (by decide +kernel))⟩
theorem lk_X11_66 : jv_lk RX11 66 M_X4_livingInit := Or.inr ⟨"SpaceWarden", (jv_at 797 (by decide +kernel))⟩
set_option maxRecDepth 20000 in
theorem me_X4_livingInit : jv_me M_X4_livingInit 1 := ⟨(jv_in3 (List.mem_of_getElem? (i := 160) rfl)), (jv_at 165 (by decide +kernel)), ⟨by decide, by decide⟩, by decide +kernel⟩
theorem mt_X11_269 : Cond.methodLink RX11 269 Lib.Math.max.name ∈ lw_tbl := (jv_at 801 (by decide +kernel))
theorem mv_X4_livingInit : jv_mv M_X4_livingInit := ⟨(jv_at 799 (by decide +kernel)), (jv_at 56 (by decide +kernel))⟩
def f_X11_adoptOrphans_h2 (K2 : jh → Option (Unit × jh)) (R2 : Nat → Int32 → Int32 → jh → Option (Unit × jh)) (x0 : Nat) (x1 : Int32) (x2 : Int32) (h : jh) : Option (Unit × jh) :=
  (if 16 ≤ x2 then
  K2  h
  else
  gR h x0 9 0 fun v2 =>
  gR h v2 3 0 fun v3 =>
  aI h v3 x2 fun v4 =>
  gR h x0 9 0 fun v5 =>
  cV h v5 3 (f_X5_has v5 x2 h) fun v6 h7 =>
  (if v6 = 0 then
  R2 x0 x1 (x2 + 1) h7
  else
  bd (f_X12_holds x1 v4 h7) fun v9 h10 =>
  (if v9 = 0 then
  R2 x0 x1 (x2 + 1) h10
  else
  gR h10 x0 9 0 fun v12 =>
  gR h10 v12 3 0 fun v13 =>
  gR h10 x0 9 1 fun v14 =>
  gR h10 x0 9 0 fun v15 =>
  gR h10 v15 3 1 fun v16 =>
  aI h10 v16 v4 fun v17 =>
  cV h10 v14 2 (f_X4_livingInit v14 v17 h10) fun v18 h19 =>
  lt1 (if 0 < v18 then v18 else 0) fun v20 =>
  sI h19 v13 x2 v20 fun h21 =>
  R2 x0 x1 (x2 + 1) h21)))
theorem o_f_X11_adoptOrphans_h2 {X : jx} {b0 : Nat × Nat} {K2 : jh → Option (Unit × jh)} (hK2 : ∀  (h : jh), jv_O X M_X11_adoptOrphans b0 jeV 72 [none, none, none, none] [] h (K2  h)) : ∀ (x0 : Nat) (x1 : Int32) (x2 : Int32) (h : jh), jv_O X M_X11_adoptOrphans b0 jeV 2 [some (.ref (x0)), some (.int (x1)), some (.int (x2)), none] [] h (jlp3 (f_X11_adoptOrphans_h2 K2) jfu x0 x1 x2 h) := by
  refine jlp3_ok (P := fun x0 x1 x2 h o => jv_O X M_X11_adoptOrphans b0 jeV 2 [some (.ref (x0)), some (.int (x1)), some (.int (x2)), none] [] h o) (fun R2 hR2 => ?_) (fun _ _ _ _  => jv_none rfl) jfu
  intro x0 x1 x2 h
  unfold f_X11_adoptOrphans_h2
  refine jv_iload_n (jv_dk t_X11_adoptOrphans (k := 2) rfl) rfl rfl ?_
  refine jv_bipush (v := 16) (jv_dk t_X11_adoptOrphans (k := 3) rfl) (by decide) ?_
  refine jv_icmp_ge (tgt := 72) (jv_dk t_X11_adoptOrphans (k := 4) rfl) rfl (fun c1 => ?_) (fun c1 => ?_)
  · refine jv_le_row (jv_le_n (jv_le_n (jv_le_n (jv_le_n (jv_le_nil))))) ?_
    exact hK2 _ 
  · show jv_O _ _ _ _ 8 _ _ _ _
    refine jv_aload_n (jv_dk t_X11_adoptOrphans (k := 5) rfl) rfl rfl (Or.inr ⟨_, rfl⟩) ?_
    refine jv_gR (jv_dk t_X11_adoptOrphans (k := 6) rfl) fl_X11_12 (fun v2 => ?_)
    refine jv_gR (jv_dk t_X11_adoptOrphans (k := 7) rfl) fl_X11_266 (fun v3 => ?_)
    refine jv_iload_n (jv_dk t_X11_adoptOrphans (k := 8) rfl) rfl rfl ?_
    refine jv_iaload (jv_dk t_X11_adoptOrphans (k := 9) rfl) (fun v4 => ?_)
    refine jv_istore_n (L' := [some (.ref (x0)), some (.int (x1)), some (.int (x2)), some (.int (v4))]) (jv_dk t_X11_adoptOrphans (k := 10) rfl) rfl (Nat.le_of_ble_eq_true rfl) rfl ?_
    refine jv_aload_n (jv_dk t_X11_adoptOrphans (k := 11) rfl) rfl rfl (Or.inr ⟨_, rfl⟩) ?_
    refine jv_gR (jv_dk t_X11_adoptOrphans (k := 12) rfl) fl_X11_12 (fun v5 => ?_)
    refine jv_iload_n (jv_dk t_X11_adoptOrphans (k := 13) rfl) rfl rfl ?_
    refine jv_callV (en' := jeI) (pv := jpI) (As := [.int (x2)]) (S := []) (jv_dk t_X11_adoptOrphans (k := 14) rfl) (fun _ => rfl) lk_X11_76 me_X5_has mv_X5_has ⟨by decide, by decide⟩ rfl rfl rfl (Nat.le_of_ble_eq_true rfl) (P_X5_has X v5 x2 h) (fun v6 h7 => ?_)
    show jv_O X M_X11_adoptOrphans _ jeV 26 [some (.ref (x0)), some (.int (x1)), some (.int (x2)), some (.int (v4))] [.int (v6)] h7 _
    refine jv_if_eq (tgt := 66) (jv_dk t_X11_adoptOrphans (k := 15) rfl) rfl (fun c8 => ?_) (fun c8 => ?_)
    · refine jv_iinc (v := 1) (L' := [some (.ref (x0)), some (.int (x1)), some (.int (x2 + 1)), some (.int (v4))]) (jv_dk t_X11_adoptOrphans (k := 35) rfl) rfl (by decide) rfl ?_
      refine jv_goto (tgt := 2) (jv_dk t_X11_adoptOrphans (k := 36) rfl) rfl ?_
      refine jv_le_row (jv_le_s (jv_le_s (jv_le_s (jv_le_n (jv_le_nil))))) ?_
      exact hR2 _ _ _ _ 
    · show jv_O _ _ _ _ 29 _ _ _ _
      refine jv_iload_n (jv_dk t_X11_adoptOrphans (k := 16) rfl) rfl rfl ?_
      refine jv_iload_n (jv_dk t_X11_adoptOrphans (k := 17) rfl) rfl rfl ?_
      refine jv_callS (en' := jeI) (pv := jpI) (As := [.int (x1), .int (v4)]) (S := []) (jv_dk t_X11_adoptOrphans (k := 18) rfl) (fun _ => rfl) lk_X11_253 me_X12_holds ms_X12_holds ⟨by decide, by decide⟩ rfl rfl (Nat.le_of_ble_eq_true rfl) (P_X12_holds X x1 v4 h7) (fun v9 h10 => ?_)
      show jv_O X M_X11_adoptOrphans _ jeV 34 [some (.ref (x0)), some (.int (x1)), some (.int (x2)), some (.int (v4))] [.int (v9)] h10 _
      refine jv_if_eq (tgt := 66) (jv_dk t_X11_adoptOrphans (k := 19) rfl) rfl (fun c11 => ?_) (fun c11 => ?_)
      · refine jv_iinc (v := 1) (L' := [some (.ref (x0)), some (.int (x1)), some (.int (x2 + 1)), some (.int (v4))]) (jv_dk t_X11_adoptOrphans (k := 35) rfl) rfl (by decide) rfl ?_
        refine jv_goto (tgt := 2) (jv_dk t_X11_adoptOrphans (k := 36) rfl) rfl ?_
        refine jv_le_row (jv_le_s (jv_le_s (jv_le_s (jv_le_n (jv_le_nil))))) ?_
        exact hR2 _ _ _ _ 
      · show jv_O _ _ _ _ 37 _ _ _ _
        refine jv_aload_n (jv_dk t_X11_adoptOrphans (k := 20) rfl) rfl rfl (Or.inr ⟨_, rfl⟩) ?_
        refine jv_gR (jv_dk t_X11_adoptOrphans (k := 21) rfl) fl_X11_12 (fun v12 => ?_)
        refine jv_gR (jv_dk t_X11_adoptOrphans (k := 22) rfl) fl_X11_266 (fun v13 => ?_)
        refine jv_iload_n (jv_dk t_X11_adoptOrphans (k := 23) rfl) rfl rfl ?_
        refine jv_iconst (v := 0) (jv_dk t_X11_adoptOrphans (k := 24) rfl) (by decide) ?_
        refine jv_aload_n (jv_dk t_X11_adoptOrphans (k := 25) rfl) rfl rfl (Or.inr ⟨_, rfl⟩) ?_
        refine jv_gR (jv_dk t_X11_adoptOrphans (k := 26) rfl) fl_X11_21 (fun v14 => ?_)
        refine jv_aload_n (jv_dk t_X11_adoptOrphans (k := 27) rfl) rfl rfl (Or.inr ⟨_, rfl⟩) ?_
        refine jv_gR (jv_dk t_X11_adoptOrphans (k := 28) rfl) fl_X11_12 (fun v15 => ?_)
        refine jv_gR (jv_dk t_X11_adoptOrphans (k := 29) rfl) fl_X11_131 (fun v16 => ?_)
        refine jv_iload_n (jv_dk t_X11_adoptOrphans (k := 30) rfl) rfl rfl ?_
        refine jv_iaload (jv_dk t_X11_adoptOrphans (k := 31) rfl) (fun v17 => ?_)
        refine jv_callV (en' := jeI) (pv := jpI) (As := [.int (v17)]) (S := [.int (0), .int (x2), .ref (v13)]) (jv_dk t_X11_adoptOrphans (k := 32) rfl) (fun _ => rfl) lk_X11_66 me_X4_livingInit mv_X4_livingInit ⟨by decide, by decide⟩ rfl rfl rfl (Nat.le_of_ble_eq_true rfl) (P_X4_livingInit X v14 v17 h10) (fun v18 h19 => ?_)
        show jv_O X M_X11_adoptOrphans _ jeV 62 [some (.ref (x0)), some (.int (x1)), some (.int (x2)), some (.int (v4))] [.int (v18), .int (0), .int (x2), .ref (v13)] h19 _
        refine jv_lt1 (fun v20 e_v20 => ?_)
        refine jv_mmax (jv_dk t_X11_adoptOrphans (k := 33) rfl) mt_X11_269 (Nat.le_of_ble_eq_true rfl) ⟨by decide, by decide⟩ ?_
        rw [← e_v20]
        refine jv_iastore (jv_dk t_X11_adoptOrphans (k := 34) rfl) (fun h21 => ?_)
        refine jv_iinc (v := 1) (L' := [some (.ref (x0)), some (.int (x1)), some (.int (x2 + 1)), some (.int (v4))]) (jv_dk t_X11_adoptOrphans (k := 35) rfl) rfl (by decide) rfl ?_
        refine jv_goto (tgt := 2) (jv_dk t_X11_adoptOrphans (k := 36) rfl) rfl ?_
        refine jv_le_row (jv_le_s (jv_le_s (jv_le_s (jv_le_n (jv_le_nil))))) ?_
        exact hR2 _ _ _ _ 
def f_X11_adoptOrphans (a0 : Nat) (a1 : Int32) (h : jh) : Option (Unit × jh) :=
  jlp3 (f_X11_adoptOrphans_h2 (fun  h22 =>
  some ((), h22))) jfu a0 a1 0 h
theorem P_X11_adoptOrphans (X : jx) (a0 : Nat) (a1 : Int32) (h : jh) : jv_P X M_X11_adoptOrphans jeV [.ref (a0), .int (a1)] h (f_X11_adoptOrphans a0 a1 h) := by
  refine jv_P.of (by decide) rfl (by simp [Value.category]) (Nat.le_of_ble_eq_true rfl) ?_
  show jv_O X M_X11_adoptOrphans (h.1, h.2.1) jeV 0 [some (.ref (a0)), some (.int (a1)), none, none] [] h (f_X11_adoptOrphans a0 a1 h)
  unfold f_X11_adoptOrphans
  refine jv_iconst (v := 0) (jv_dk t_X11_adoptOrphans (k := 0) rfl) (by decide) ?_
  refine jv_istore_n (L' := [some (.ref (a0)), some (.int (a1)), some (.int (0)), none]) (jv_dk t_X11_adoptOrphans (k := 1) rfl) rfl (Nat.le_of_ble_eq_true rfl) rfl ?_
  refine o_f_X11_adoptOrphans_h2 (fun  h22 => ?_) _ _ _ _ 
  show jv_O X M_X11_adoptOrphans _ jeV 72 [none, none, none, none] [] h22 _
  exact jv_vret (jv_dk t_X11_adoptOrphans (k := 37) rfl) rfl rfl
def t0_X11_finish : List (Nat × Instr × Nat) := [(0, .aload_n 0, 1), (1, .iload_n 1, 1), (2, .invokevirtual 250, 3), (5, .istore_n 2, 1), (6, .iload_n 2, 1), (7, .ifCond .ne 5, 3), (10, .iconst (-1), 1), (11, .ireturn, 1), (12, .iconst 0, 1), (13, .istore_n 3, 1), (14, .iload_n 3, 1), (15, .bipush 16, 2), (17, .if_icmp .ge 44, 3), (20, .iload_n 2, 1), (21, .iload_n 3, 1), (22, .invokestatic 253, 3), (25, .ifCond .eq 30, 3), (28, .aload_n 0, 1), (29, .iload_n 3, 1), (30, .invokevirtual 244, 3), (33, .ifCond .eq 22, 3), (36, .aload_n 0, 1), (37, .getfield 21, 3), (40, .getfield 128, 3), (43, .aload_n 0, 1), (44, .getfield 12, 3), (47, .getfield 131, 3), (50, .iload_n 3, 1), (51, .iaload, 1), (52, .bipush (-2), 2), (54, .iastore, 1), (55, .iinc 3 1, 3), (58, .goto (-44), 3), (61, .aload_n 0, 1), (62, .getfield 12, 3), (65, .dup, 1), (66, .getfield 256, 3), (69, .iload_n 2, 1), (70, .iconst (-1), 1), (71, .ixor, 1), (72, .iand, 1), (73, .putfield 256, 3), (76, .aload_n 0, 1), (77, .getfield 12, 3), (80, .dup, 1), (81, .getfield 259, 3), (84, .iload_n 2, 1), (85, .iconst (-1), 1), (86, .ixor, 1), (87, .iand, 1), (88, .putfield 259, 3), (91, .aload_n 0, 1), (92, .iload_n 2, 1), (93, .invokevirtual 262, 3), (96, .iload_n 2, 1), (97, .ireturn, 1)]
theorem t_X11_finish : jv_dec cX11_finish t0_X11_finish = true := by decide +kernel
def M_X11_finish : jm := (yX11_finish, cX11_finish, 4, (some .int), 3, 68, [])
theorem lk_X11_250 : Cond.methodLink RX11 250 M_X11_fallOf.1 ∈ lw_tbl := (jv_at 780 (by decide +kernel))
theorem fl_X11_256 : jv_F RX11 256 3 7 RX5 TX5 9 := ⟨rfl, by decide, inX5, Or.inr ⟨"SpaceWarden", (jv_at 239 (by decide +kernel))⟩⟩
theorem fl_X11_259 : jv_F RX11 259 3 8 RX5 TX5 9 := ⟨rfl, by decide, inX5, Or.inr ⟨"SpaceWarden", (jv_at 242 (by decide +kernel))⟩⟩
theorem lk_X11_262 : Cond.methodLink RX11 262 M_X11_adoptOrphans.1 ∈ lw_tbl := (jv_at 793 (by decide +kernel))
set_option maxRecDepth 20000 in
theorem me_X11_adoptOrphans : jv_me M_X11_adoptOrphans 1 := ⟨(jv_in3 (List.mem_of_getElem? (i := 156) rfl)), (jv_at 163 (by decide +kernel)), ⟨by decide, by decide⟩, by decide +kernel⟩
theorem mv_X11_adoptOrphans : jv_mv M_X11_adoptOrphans := ⟨(jv_at 795 (by decide +kernel)), (jv_at 55 (by decide +kernel))⟩
def f_X11_finish_h14 (K14 : Nat → Int32 → jh → Option (Int32 × jh)) (R14 : Nat → Int32 → Int32 → jh → Option (Int32 × jh)) (x0 : Nat) (x2 : Int32) (x3 : Int32) (h : jh) : Option (Int32 × jh) :=
  (if 16 ≤ x3 then
  K14 x0 x2 h
  else
  bd (f_X12_holds x2 x3 h) fun v5 h6 =>
  (if v5 = 0 then
  R14 x0 x2 (x3 + 1) h6
  else
  cV h6 x0 9 (f_X11_isInit x0 x3 h6) fun v8 h9 =>
  (if v8 = 0 then
  R14 x0 x2 (x3 + 1) h9
  else
  gR h9 x0 9 1 fun v11 =>
  gR h9 v11 2 3 fun v12 =>
  gR h9 x0 9 0 fun v13 =>
  gR h9 v13 3 1 fun v14 =>
  aI h9 v14 x3 fun v15 =>
  sI h9 v12 v15 (-2) fun h16 =>
  R14 x0 x2 (x3 + 1) h16)))
theorem o_f_X11_finish_h14 {X : jx} {b0 : Nat × Nat} {K14 : Nat → Int32 → jh → Option (Int32 × jh)} (hK14 : ∀ (x0 : Nat) (x2 : Int32) (h : jh), jv_O X M_X11_finish b0 jeI 61 [some (.ref (x0)), none, some (.int (x2)), none] [] h (K14 x0 x2 h)) : ∀ (x0 : Nat) (x2 : Int32) (x3 : Int32) (h : jh), jv_O X M_X11_finish b0 jeI 14 [some (.ref (x0)), none, some (.int (x2)), some (.int (x3))] [] h (jlp3 (f_X11_finish_h14 K14) jfu x0 x2 x3 h) := by
  refine jlp3_ok (P := fun x0 x2 x3 h o => jv_O X M_X11_finish b0 jeI 14 [some (.ref (x0)), none, some (.int (x2)), some (.int (x3))] [] h o) (fun R14 hR14 => ?_) (fun _ _ _ _  => jv_none rfl) jfu
  intro x0 x2 x3 h
  unfold f_X11_finish_h14
  refine jv_iload_n (jv_dk t_X11_finish (k := 10) rfl) rfl rfl ?_
  refine jv_bipush (v := 16) (jv_dk t_X11_finish (k := 11) rfl) (by decide) ?_
  refine jv_icmp_ge (tgt := 61) (jv_dk t_X11_finish (k := 12) rfl) rfl (fun c4 => ?_) (fun c4 => ?_)
  · refine jv_le_row (jv_le_s (jv_le_n (jv_le_s (jv_le_n (jv_le_nil))))) ?_
    exact hK14 _ _ _ 
  · show jv_O _ _ _ _ 20 _ _ _ _
    refine jv_iload_n (jv_dk t_X11_finish (k := 13) rfl) rfl rfl ?_
    refine jv_iload_n (jv_dk t_X11_finish (k := 14) rfl) rfl rfl ?_
    refine jv_callS (en' := jeI) (pv := jpI) (As := [.int (x2), .int (x3)]) (S := []) (jv_dk t_X11_finish (k := 15) rfl) (fun _ => rfl) lk_X11_253 me_X12_holds ms_X12_holds ⟨by decide, by decide⟩ rfl rfl (Nat.le_of_ble_eq_true rfl) (P_X12_holds X x2 x3 h) (fun v5 h6 => ?_)
    show jv_O X M_X11_finish _ jeI 25 [some (.ref (x0)), none, some (.int (x2)), some (.int (x3))] [.int (v5)] h6 _
    refine jv_if_eq (tgt := 55) (jv_dk t_X11_finish (k := 16) rfl) rfl (fun c7 => ?_) (fun c7 => ?_)
    · refine jv_iinc (v := 1) (L' := [some (.ref (x0)), none, some (.int (x2)), some (.int (x3 + 1))]) (jv_dk t_X11_finish (k := 31) rfl) rfl (by decide) rfl ?_
      refine jv_goto (tgt := 14) (jv_dk t_X11_finish (k := 32) rfl) rfl ?_
      exact hR14 _ _ _ _ 
    · show jv_O _ _ _ _ 28 _ _ _ _
      refine jv_aload_n (jv_dk t_X11_finish (k := 17) rfl) rfl rfl (Or.inr ⟨_, rfl⟩) ?_
      refine jv_iload_n (jv_dk t_X11_finish (k := 18) rfl) rfl rfl ?_
      refine jv_callV (en' := jeI) (pv := jpI) (As := [.int (x3)]) (S := []) (jv_dk t_X11_finish (k := 19) rfl) (fun _ => rfl) (Or.inl lk_X11_244) me_X11_isInit mv_X11_isInit ⟨by decide, by decide⟩ rfl rfl rfl (Nat.le_of_ble_eq_true rfl) (P_X11_isInit X x0 x3 h6) (fun v8 h9 => ?_)
      show jv_O X M_X11_finish _ jeI 33 [some (.ref (x0)), none, some (.int (x2)), some (.int (x3))] [.int (v8)] h9 _
      refine jv_if_eq (tgt := 55) (jv_dk t_X11_finish (k := 20) rfl) rfl (fun c10 => ?_) (fun c10 => ?_)
      · refine jv_iinc (v := 1) (L' := [some (.ref (x0)), none, some (.int (x2)), some (.int (x3 + 1))]) (jv_dk t_X11_finish (k := 31) rfl) rfl (by decide) rfl ?_
        refine jv_goto (tgt := 14) (jv_dk t_X11_finish (k := 32) rfl) rfl ?_
        exact hR14 _ _ _ _ 
      · show jv_O _ _ _ _ 36 _ _ _ _
        refine jv_aload_n (jv_dk t_X11_finish (k := 21) rfl) rfl rfl (Or.inr ⟨_, rfl⟩) ?_
        refine jv_gR (jv_dk t_X11_finish (k := 22) rfl) fl_X11_21 (fun v11 => ?_)
        refine jv_gR (jv_dk t_X11_finish (k := 23) rfl) fl_X11_128 (fun v12 => ?_)
        refine jv_aload_n (jv_dk t_X11_finish (k := 24) rfl) rfl rfl (Or.inr ⟨_, rfl⟩) ?_
        refine jv_gR (jv_dk t_X11_finish (k := 25) rfl) fl_X11_12 (fun v13 => ?_)
        refine jv_gR (jv_dk t_X11_finish (k := 26) rfl) fl_X11_131 (fun v14 => ?_)
        refine jv_iload_n (jv_dk t_X11_finish (k := 27) rfl) rfl rfl ?_
        refine jv_iaload (jv_dk t_X11_finish (k := 28) rfl) (fun v15 => ?_)
        refine jv_bipush (v := (-2)) (jv_dk t_X11_finish (k := 29) rfl) (by decide) ?_
        refine jv_iastore (jv_dk t_X11_finish (k := 30) rfl) (fun h16 => ?_)
        refine jv_iinc (v := 1) (L' := [some (.ref (x0)), none, some (.int (x2)), some (.int (x3 + 1))]) (jv_dk t_X11_finish (k := 31) rfl) rfl (by decide) rfl ?_
        refine jv_goto (tgt := 14) (jv_dk t_X11_finish (k := 32) rfl) rfl ?_
        exact hR14 _ _ _ _ 
def f_X11_finish (a0 : Nat) (a1 : Int32) (h : jh) : Option (Int32 × jh) :=
  cV h a0 9 (f_X11_fallOf a0 a1 h) fun v1 h2 =>
  (if ¬ v1 = 0 then
  jlp3 (f_X11_finish_h14 (fun y18 y19 h17 =>
  gR h17 y18 9 0 fun v20 =>
  gI h17 v20 3 7 fun v21 =>
  pV h17 v20 3 7 (.int (v21 &&& (y19 ^^^ (-1)))) fun h22 =>
  gR h22 y18 9 0 fun v23 =>
  gI h22 v23 3 8 fun v24 =>
  pV h22 v23 3 8 (.int (v24 &&& (y19 ^^^ (-1)))) fun h25 =>
  cV h25 y18 9 (f_X11_adoptOrphans y18 y19 h25) fun _ h26 =>
  some (y19, h26))) jfu a0 v1 0 h2
  else
  some ((-1), h2))
theorem P_X11_finish (X : jx) (a0 : Nat) (a1 : Int32) (h : jh) : jv_P X M_X11_finish jeI [.ref (a0), .int (a1)] h (f_X11_finish a0 a1 h) := by
  refine jv_P.of (by decide) rfl (by simp [Value.category]) (Nat.le_of_ble_eq_true rfl) ?_
  show jv_O X M_X11_finish (h.1, h.2.1) jeI 0 [some (.ref (a0)), some (.int (a1)), none, none] [] h (f_X11_finish a0 a1 h)
  unfold f_X11_finish
  refine jv_aload_n (jv_dk t_X11_finish (k := 0) rfl) rfl rfl (Or.inr ⟨_, rfl⟩) ?_
  refine jv_iload_n (jv_dk t_X11_finish (k := 1) rfl) rfl rfl ?_
  refine jv_callV (en' := jeI) (pv := jpI) (As := [.int (a1)]) (S := []) (jv_dk t_X11_finish (k := 2) rfl) (fun _ => rfl) (Or.inl lk_X11_250) me_X11_fallOf mv_X11_fallOf ⟨by decide, by decide⟩ rfl rfl rfl (Nat.le_of_ble_eq_true rfl) (P_X11_fallOf X a0 a1 h) (fun v1 h2 => ?_)
  show jv_O X M_X11_finish _ jeI 5 [some (.ref (a0)), some (.int (a1)), none, none] [.int (v1)] h2 _
  refine jv_istore_n (L' := [some (.ref (a0)), some (.int (a1)), some (.int (v1)), none]) (jv_dk t_X11_finish (k := 3) rfl) rfl (Nat.le_of_ble_eq_true rfl) rfl ?_
  refine jv_iload_n (jv_dk t_X11_finish (k := 4) rfl) rfl rfl ?_
  refine jv_if_ne (tgt := 12) (jv_dk t_X11_finish (k := 5) rfl) rfl (fun c3 => ?_) (fun c3 => ?_)
  · refine jv_iconst (v := 0) (jv_dk t_X11_finish (k := 8) rfl) (by decide) ?_
    refine jv_istore_n (L' := [some (.ref (a0)), some (.int (a1)), some (.int (v1)), some (.int (0))]) (jv_dk t_X11_finish (k := 9) rfl) rfl (Nat.le_of_ble_eq_true rfl) rfl ?_
    refine jv_le_row (jv_le_s (jv_le_n (jv_le_s (jv_le_s (jv_le_nil))))) ?_
    refine o_f_X11_finish_h14 (fun y18 y19 h17 => ?_) _ _ _ _ 
    show jv_O X M_X11_finish _ jeI 61 [some (.ref (y18)), none, some (.int (y19)), none] [] h17 _
    refine jv_aload_n (jv_dk t_X11_finish (k := 33) rfl) rfl rfl (Or.inr ⟨_, rfl⟩) ?_
    refine jv_gR (jv_dk t_X11_finish (k := 34) rfl) fl_X11_12 (fun v20 => ?_)
    refine jv_dup (jv_dk t_X11_finish (k := 35) rfl) rfl ?_
    refine jv_gI (jv_dk t_X11_finish (k := 36) rfl) fl_X11_256 (fun v21 => ?_)
    refine jv_iload_n (jv_dk t_X11_finish (k := 37) rfl) rfl rfl ?_
    refine jv_iconst (v := (-1)) (jv_dk t_X11_finish (k := 38) rfl) (by decide) ?_
    refine jv_ixor (jv_dk t_X11_finish (k := 39) rfl) ?_
    refine jv_iand (jv_dk t_X11_finish (k := 40) rfl) ?_
    refine jv_pV (jv_dk t_X11_finish (k := 41) rfl) fl_X11_256 kX5 (Or.inl rfl) rfl rfl rfl (fun h22 => ?_)
    refine jv_aload_n (jv_dk t_X11_finish (k := 42) rfl) rfl rfl (Or.inr ⟨_, rfl⟩) ?_
    refine jv_gR (jv_dk t_X11_finish (k := 43) rfl) fl_X11_12 (fun v23 => ?_)
    refine jv_dup (jv_dk t_X11_finish (k := 44) rfl) rfl ?_
    refine jv_gI (jv_dk t_X11_finish (k := 45) rfl) fl_X11_259 (fun v24 => ?_)
    refine jv_iload_n (jv_dk t_X11_finish (k := 46) rfl) rfl rfl ?_
    refine jv_iconst (v := (-1)) (jv_dk t_X11_finish (k := 47) rfl) (by decide) ?_
    refine jv_ixor (jv_dk t_X11_finish (k := 48) rfl) ?_
    refine jv_iand (jv_dk t_X11_finish (k := 49) rfl) ?_
    refine jv_pV (jv_dk t_X11_finish (k := 50) rfl) fl_X11_259 kX5 (Or.inl rfl) rfl rfl rfl (fun h25 => ?_)
    refine jv_aload_n (jv_dk t_X11_finish (k := 51) rfl) rfl rfl (Or.inr ⟨_, rfl⟩) ?_
    refine jv_iload_n (jv_dk t_X11_finish (k := 52) rfl) rfl rfl ?_
    refine jv_callV (en' := jeV) (pv := jpV) (As := [.int (y19)]) (S := []) (jv_dk t_X11_finish (k := 53) rfl) (fun _ => rfl) (Or.inl lk_X11_262) me_X11_adoptOrphans mv_X11_adoptOrphans ⟨by decide, by decide⟩ rfl rfl rfl (Nat.le_of_ble_eq_true rfl) (P_X11_adoptOrphans X y18 y19 h25) (fun _ h26 => ?_)
    show jv_O X M_X11_finish _ jeI 96 [some (.ref (y18)), none, some (.int (y19)), none] [] h26 _
    refine jv_iload_n (jv_dk t_X11_finish (k := 54) rfl) rfl rfl ?_
    exact jv_iret (ty := .int) (jv_dk t_X11_finish (k := 55) rfl) rfl rfl rfl
  · show jv_O _ _ _ _ 10 _ _ _ _
    refine jv_iconst (v := (-1)) (jv_dk t_X11_finish (k := 6) rfl) (by decide) ?_
    exact jv_iret (ty := .int) (jv_dk t_X11_finish (k := 7) rfl) rfl rfl rfl
def t0_X11_canKill : List (Nat × Instr × Nat) := [(0, .aload_n 0, 1), (1, .getfield 12, 3), (4, .iload_n 2, 1), (5, .invokevirtual 76, 3), (8, .ifCond .eq 16, 3), (11, .iload_n 2, 1), (12, .ifCond .eq 12, 3), (15, .aload_n 0, 1), (16, .iload_n 1, 1), (17, .iload_n 2, 1), (18, .invokevirtual 150, 3), (21, .ifCond .ne 5, 3), (24, .iconst 0, 1), (25, .ireturn, 1), (26, .aload_n 0, 1), (27, .getfield 21, 3), (30, .getfield 128, 3), (33, .aload_n 0, 1), (34, .getfield 12, 3), (37, .getfield 131, 3), (40, .iload_n 1, 1), (41, .iaload, 1), (42, .iaload, 1), (43, .iload_n 2, 1), (44, .if_icmp .ne 5, 3), (47, .iconst 0, 1), (48, .ireturn, 1), (49, .aload_n 0, 1), (50, .getfield 12, 3), (53, .getfield 143, 3), (56, .iload_n 1, 1), (57, .iaload, 1), (58, .aload_n 0, 1), (59, .getfield 12, 3), (62, .getfield 143, 3), (65, .iload_n 2, 1), (66, .iaload, 1), (67, .if_icmp .eq 20, 3), (70, .aload_n 0, 1), (71, .iload_n 1, 1), (72, .aload_n 0, 1), (73, .getfield 12, 3), (76, .getfield 137, 3), (79, .iload_n 2, 1), (80, .iaload, 1), (81, .invokevirtual 153, 3), (84, .ifCond .eq 7, 3), (87, .iconst 1, 1), (88, .goto 4, 3), (91, .iconst 0, 1), (92, .ireturn, 1)]
theorem t_X11_canKill : jv_dec cX11_canKill t0_X11_canKill = true := by decide +kernel
def M_X11_canKill : jm := (yX11_canKill, cX11_canKill, 3, (some .boolean), 3, 70, [])
def f_X11_canKill (a0 : Nat) (a1 : Int32) (a2 : Int32) (h : jh) : Option (Int32 × jh) :=
  gR h a0 9 0 fun v1 =>
  cV h v1 3 (f_X5_has v1 a2 h) fun v2 h3 =>
  (if v2 = 0 then
  some (0, h3)
  else
  (if a2 = 0 then
  some (0, h3)
  else
  cV h3 a0 9 (f_X11_sees a0 a1 a2 h3) fun v6 h7 =>
  (if ¬ v6 = 0 then
  gR h7 a0 9 1 fun v9 =>
  gR h7 v9 2 3 fun v10 =>
  gR h7 a0 9 0 fun v11 =>
  gR h7 v11 3 1 fun v12 =>
  aI h7 v12 a1 fun v13 =>
  aI h7 v10 v13 fun v14 =>
  (if ¬ v14 = a2 then
  gR h7 a0 9 0 fun v16 =>
  gR h7 v16 3 5 fun v17 =>
  aI h7 v17 a1 fun v18 =>
  gR h7 a0 9 0 fun v19 =>
  gR h7 v19 3 5 fun v20 =>
  aI h7 v20 a2 fun v21 =>
  (if v18 = v21 then
  some (1, h7)
  else
  gR h7 a0 9 0 fun v23 =>
  gR h7 v23 3 2 fun v24 =>
  aI h7 v24 a2 fun v25 =>
  cV h7 a0 9 (f_X11_rules a0 a1 v25 h7) fun v26 h27 =>
  (if v26 = 0 then
  some (0, h27)
  else
  some (1, h27)))
  else
  some (0, h7))
  else
  some (0, h7))))
theorem P_X11_canKill (X : jx) (a0 : Nat) (a1 : Int32) (a2 : Int32) (h : jh) : jv_P X M_X11_canKill jeI [.ref (a0), .int (a1), .int (a2)] h (f_X11_canKill a0 a1 a2 h) := by
  refine jv_P.of (by decide) rfl (by simp [Value.category]) (Nat.le_of_ble_eq_true rfl) ?_
  show jv_O X M_X11_canKill (h.1, h.2.1) jeI 0 [some (.ref (a0)), some (.int (a1)), some (.int (a2))] [] h (f_X11_canKill a0 a1 a2 h)
  unfold f_X11_canKill
  refine jv_aload_n (jv_dk t_X11_canKill (k := 0) rfl) rfl rfl (Or.inr ⟨_, rfl⟩) ?_
  refine jv_gR (jv_dk t_X11_canKill (k := 1) rfl) fl_X11_12 (fun v1 => ?_)
  refine jv_iload_n (jv_dk t_X11_canKill (k := 2) rfl) rfl rfl ?_
  refine jv_callV (en' := jeI) (pv := jpI) (As := [.int (a2)]) (S := []) (jv_dk t_X11_canKill (k := 3) rfl) (fun _ => rfl) lk_X11_76 me_X5_has mv_X5_has ⟨by decide, by decide⟩ rfl rfl rfl (Nat.le_of_ble_eq_true rfl) (P_X5_has X v1 a2 h) (fun v2 h3 => ?_)
  show jv_O X M_X11_canKill _ jeI 8 [some (.ref (a0)), some (.int (a1)), some (.int (a2))] [.int (v2)] h3 _
  refine jv_if_eq (tgt := 24) (jv_dk t_X11_canKill (k := 4) rfl) rfl (fun c4 => ?_) (fun c4 => ?_)
  · refine jv_iconst (v := 0) (jv_dk t_X11_canKill (k := 12) rfl) (by decide) ?_
    exact jv_iret (ty := .boolean) (jv_dk t_X11_canKill (k := 13) rfl) rfl rfl rfl
  · show jv_O _ _ _ _ 11 _ _ _ _
    refine jv_iload_n (jv_dk t_X11_canKill (k := 5) rfl) rfl rfl ?_
    refine jv_if_eq (tgt := 24) (jv_dk t_X11_canKill (k := 6) rfl) rfl (fun c5 => ?_) (fun c5 => ?_)
    · refine jv_iconst (v := 0) (jv_dk t_X11_canKill (k := 12) rfl) (by decide) ?_
      exact jv_iret (ty := .boolean) (jv_dk t_X11_canKill (k := 13) rfl) rfl rfl rfl
    · show jv_O _ _ _ _ 15 _ _ _ _
      refine jv_aload_n (jv_dk t_X11_canKill (k := 7) rfl) rfl rfl (Or.inr ⟨_, rfl⟩) ?_
      refine jv_iload_n (jv_dk t_X11_canKill (k := 8) rfl) rfl rfl ?_
      refine jv_iload_n (jv_dk t_X11_canKill (k := 9) rfl) rfl rfl ?_
      refine jv_callV (en' := jeI) (pv := jpI) (As := [.int (a1), .int (a2)]) (S := []) (jv_dk t_X11_canKill (k := 10) rfl) (fun _ => rfl) (Or.inl lk_X11_150) me_X11_sees mv_X11_sees ⟨by decide, by decide⟩ rfl rfl rfl (Nat.le_of_ble_eq_true rfl) (P_X11_sees X a0 a1 a2 h3) (fun v6 h7 => ?_)
      show jv_O X M_X11_canKill _ jeI 21 [some (.ref (a0)), some (.int (a1)), some (.int (a2))] [.int (v6)] h7 _
      refine jv_if_ne (tgt := 26) (jv_dk t_X11_canKill (k := 11) rfl) rfl (fun c8 => ?_) (fun c8 => ?_)
      · refine jv_aload_n (jv_dk t_X11_canKill (k := 14) rfl) rfl rfl (Or.inr ⟨_, rfl⟩) ?_
        refine jv_gR (jv_dk t_X11_canKill (k := 15) rfl) fl_X11_21 (fun v9 => ?_)
        refine jv_gR (jv_dk t_X11_canKill (k := 16) rfl) fl_X11_128 (fun v10 => ?_)
        refine jv_aload_n (jv_dk t_X11_canKill (k := 17) rfl) rfl rfl (Or.inr ⟨_, rfl⟩) ?_
        refine jv_gR (jv_dk t_X11_canKill (k := 18) rfl) fl_X11_12 (fun v11 => ?_)
        refine jv_gR (jv_dk t_X11_canKill (k := 19) rfl) fl_X11_131 (fun v12 => ?_)
        refine jv_iload_n (jv_dk t_X11_canKill (k := 20) rfl) rfl rfl ?_
        refine jv_iaload (jv_dk t_X11_canKill (k := 21) rfl) (fun v13 => ?_)
        refine jv_iaload (jv_dk t_X11_canKill (k := 22) rfl) (fun v14 => ?_)
        refine jv_iload_n (jv_dk t_X11_canKill (k := 23) rfl) rfl rfl ?_
        refine jv_icmp_ne (tgt := 49) (jv_dk t_X11_canKill (k := 24) rfl) rfl (fun c15 => ?_) (fun c15 => ?_)
        · refine jv_aload_n (jv_dk t_X11_canKill (k := 27) rfl) rfl rfl (Or.inr ⟨_, rfl⟩) ?_
          refine jv_gR (jv_dk t_X11_canKill (k := 28) rfl) fl_X11_12 (fun v16 => ?_)
          refine jv_gR (jv_dk t_X11_canKill (k := 29) rfl) fl_X11_143 (fun v17 => ?_)
          refine jv_iload_n (jv_dk t_X11_canKill (k := 30) rfl) rfl rfl ?_
          refine jv_iaload (jv_dk t_X11_canKill (k := 31) rfl) (fun v18 => ?_)
          refine jv_aload_n (jv_dk t_X11_canKill (k := 32) rfl) rfl rfl (Or.inr ⟨_, rfl⟩) ?_
          refine jv_gR (jv_dk t_X11_canKill (k := 33) rfl) fl_X11_12 (fun v19 => ?_)
          refine jv_gR (jv_dk t_X11_canKill (k := 34) rfl) fl_X11_143 (fun v20 => ?_)
          refine jv_iload_n (jv_dk t_X11_canKill (k := 35) rfl) rfl rfl ?_
          refine jv_iaload (jv_dk t_X11_canKill (k := 36) rfl) (fun v21 => ?_)
          refine jv_icmp_eq (tgt := 87) (jv_dk t_X11_canKill (k := 37) rfl) rfl (fun c22 => ?_) (fun c22 => ?_)
          · refine jv_iconst (v := 1) (jv_dk t_X11_canKill (k := 47) rfl) (by decide) ?_
            refine jv_goto (tgt := 92) (jv_dk t_X11_canKill (k := 48) rfl) rfl ?_
            exact jv_iret (ty := .boolean) (jv_dk t_X11_canKill (k := 50) rfl) rfl rfl rfl
          · show jv_O _ _ _ _ 70 _ _ _ _
            refine jv_aload_n (jv_dk t_X11_canKill (k := 38) rfl) rfl rfl (Or.inr ⟨_, rfl⟩) ?_
            refine jv_iload_n (jv_dk t_X11_canKill (k := 39) rfl) rfl rfl ?_
            refine jv_aload_n (jv_dk t_X11_canKill (k := 40) rfl) rfl rfl (Or.inr ⟨_, rfl⟩) ?_
            refine jv_gR (jv_dk t_X11_canKill (k := 41) rfl) fl_X11_12 (fun v23 => ?_)
            refine jv_gR (jv_dk t_X11_canKill (k := 42) rfl) fl_X11_137 (fun v24 => ?_)
            refine jv_iload_n (jv_dk t_X11_canKill (k := 43) rfl) rfl rfl ?_
            refine jv_iaload (jv_dk t_X11_canKill (k := 44) rfl) (fun v25 => ?_)
            refine jv_callV (en' := jeI) (pv := jpI) (As := [.int (a1), .int (v25)]) (S := []) (jv_dk t_X11_canKill (k := 45) rfl) (fun _ => rfl) (Or.inl lk_X11_153) me_X11_rules mv_X11_rules ⟨by decide, by decide⟩ rfl rfl rfl (Nat.le_of_ble_eq_true rfl) (P_X11_rules X a0 a1 v25 h7) (fun v26 h27 => ?_)
            show jv_O X M_X11_canKill _ jeI 84 [some (.ref (a0)), some (.int (a1)), some (.int (a2))] [.int (v26)] h27 _
            refine jv_if_eq (tgt := 91) (jv_dk t_X11_canKill (k := 46) rfl) rfl (fun c28 => ?_) (fun c28 => ?_)
            · refine jv_iconst (v := 0) (jv_dk t_X11_canKill (k := 49) rfl) (by decide) ?_
              exact jv_iret (ty := .boolean) (jv_dk t_X11_canKill (k := 50) rfl) rfl rfl rfl
            · show jv_O _ _ _ _ 87 _ _ _ _
              refine jv_iconst (v := 1) (jv_dk t_X11_canKill (k := 47) rfl) (by decide) ?_
              refine jv_goto (tgt := 92) (jv_dk t_X11_canKill (k := 48) rfl) rfl ?_
              exact jv_iret (ty := .boolean) (jv_dk t_X11_canKill (k := 50) rfl) rfl rfl rfl
        · show jv_O _ _ _ _ 47 _ _ _ _
          refine jv_iconst (v := 0) (jv_dk t_X11_canKill (k := 25) rfl) (by decide) ?_
          exact jv_iret (ty := .boolean) (jv_dk t_X11_canKill (k := 26) rfl) rfl rfl rfl
      · show jv_O _ _ _ _ 24 _ _ _ _
        refine jv_iconst (v := 0) (jv_dk t_X11_canKill (k := 12) rfl) (by decide) ?_
        exact jv_iret (ty := .boolean) (jv_dk t_X11_canKill (k := 13) rfl) rfl rfl rfl
def t0_X11_turnSharing : List (Nat × Instr × Nat) := [(0, .aload_n 0, 1), (1, .getfield 12, 3), (4, .getfield 156, 3), (7, .iload_n 1, 1), (8, .iaload, 1), (9, .istore_n 2, 1), (10, .aload_n 0, 1), (11, .iload_n 1, 1), (12, .aload_n 0, 1), (13, .getfield 35, 3), (16, .getfield 65, 3), (19, .iload_n 2, 1), (20, .iaload, 1), (21, .invokevirtual 153, 3), (24, .ifCond .ne 5, 3), (27, .iconst (-1), 1), (28, .ireturn, 1), (29, .aload_n 0, 1), (30, .getfield 35, 3), (33, .dup, 1), (34, .getfield 229, 3), (37, .iconst 1, 1), (38, .iload_n 2, 1), (39, .ishl, 1), (40, .ixor, 1), (41, .putfield 229, 3), (44, .aload_n 0, 1), (45, .getfield 35, 3), (48, .iload_n 2, 1), (49, .invokevirtual 233, 3), (52, .invokestatic 236, 3), (55, .ireturn, 1)]
theorem t_X11_turnSharing : jv_dec cX11_turnSharing t0_X11_turnSharing = true := by decide +kernel
def M_X11_turnSharing : jm := (yX11_turnSharing, cX11_turnSharing, 3, (some .int), 3, 70, [])
theorem fl_X11_229 : jv_F RX11 229 0 3 RX2 TX2 4 := ⟨rfl, by decide, inX2, Or.inr ⟨"SpaceWarden", (jv_at 356 (by decide +kernel))⟩⟩
theorem lk_X11_233 : jv_lk RX11 233 M_X2_isShared := Or.inr ⟨"SpaceWarden", (jv_at 812 (by decide +kernel))⟩
theorem lk_X11_236 : jv_lk RX11 236 M_X12_bit := Or.inr ⟨"SpaceWarden", (jv_at 813 (by decide +kernel))⟩
def f_X11_turnSharing (a0 : Nat) (a1 : Int32) (h : jh) : Option (Int32 × jh) :=
  gR h a0 9 0 fun v1 =>
  gR h v1 3 3 fun v2 =>
  aI h v2 a1 fun v3 =>
  gR h a0 9 3 fun v4 =>
  gR h v4 0 1 fun v5 =>
  aI h v5 v3 fun v6 =>
  cV h a0 9 (f_X11_rules a0 a1 v6 h) fun v7 h8 =>
  (if ¬ v7 = 0 then
  gR h8 a0 9 3 fun v10 =>
  gI h8 v10 0 3 fun v11 =>
  pV h8 v10 0 3 (.int (v11 ^^^ (1 <<< (v3 &&& 31)))) fun h12 =>
  gR h12 a0 9 3 fun v13 =>
  cV h12 v13 0 (f_X2_isShared v13 v3 h12) fun v14 h15 =>
  bd (f_X12_bit v14 h15) fun v16 h17 =>
  some (v16, h17)
  else
  some ((-1), h8))
theorem P_X11_turnSharing (X : jx) (a0 : Nat) (a1 : Int32) (h : jh) : jv_P X M_X11_turnSharing jeI [.ref (a0), .int (a1)] h (f_X11_turnSharing a0 a1 h) := by
  refine jv_P.of (by decide) rfl (by simp [Value.category]) (Nat.le_of_ble_eq_true rfl) ?_
  show jv_O X M_X11_turnSharing (h.1, h.2.1) jeI 0 [some (.ref (a0)), some (.int (a1)), none] [] h (f_X11_turnSharing a0 a1 h)
  unfold f_X11_turnSharing
  refine jv_aload_n (jv_dk t_X11_turnSharing (k := 0) rfl) rfl rfl (Or.inr ⟨_, rfl⟩) ?_
  refine jv_gR (jv_dk t_X11_turnSharing (k := 1) rfl) fl_X11_12 (fun v1 => ?_)
  refine jv_gR (jv_dk t_X11_turnSharing (k := 2) rfl) fl_X11_156 (fun v2 => ?_)
  refine jv_iload_n (jv_dk t_X11_turnSharing (k := 3) rfl) rfl rfl ?_
  refine jv_iaload (jv_dk t_X11_turnSharing (k := 4) rfl) (fun v3 => ?_)
  refine jv_istore_n (L' := [some (.ref (a0)), some (.int (a1)), some (.int (v3))]) (jv_dk t_X11_turnSharing (k := 5) rfl) rfl (Nat.le_of_ble_eq_true rfl) rfl ?_
  refine jv_aload_n (jv_dk t_X11_turnSharing (k := 6) rfl) rfl rfl (Or.inr ⟨_, rfl⟩) ?_
  refine jv_iload_n (jv_dk t_X11_turnSharing (k := 7) rfl) rfl rfl ?_
  refine jv_aload_n (jv_dk t_X11_turnSharing (k := 8) rfl) rfl rfl (Or.inr ⟨_, rfl⟩) ?_
  refine jv_gR (jv_dk t_X11_turnSharing (k := 9) rfl) fl_X11_35 (fun v4 => ?_)
  refine jv_gR (jv_dk t_X11_turnSharing (k := 10) rfl) fl_X11_65 (fun v5 => ?_)
  refine jv_iload_n (jv_dk t_X11_turnSharing (k := 11) rfl) rfl rfl ?_
  refine jv_iaload (jv_dk t_X11_turnSharing (k := 12) rfl) (fun v6 => ?_)
  refine jv_callV (en' := jeI) (pv := jpI) (As := [.int (a1), .int (v6)]) (S := []) (jv_dk t_X11_turnSharing (k := 13) rfl) (fun _ => rfl) (Or.inl lk_X11_153) me_X11_rules mv_X11_rules ⟨by decide, by decide⟩ rfl rfl rfl (Nat.le_of_ble_eq_true rfl) (P_X11_rules X a0 a1 v6 h) (fun v7 h8 => ?_)
  show jv_O X M_X11_turnSharing _ jeI 24 [some (.ref (a0)), some (.int (a1)), some (.int (v3))] [.int (v7)] h8 _
  refine jv_if_ne (tgt := 29) (jv_dk t_X11_turnSharing (k := 14) rfl) rfl (fun c9 => ?_) (fun c9 => ?_)
  · refine jv_aload_n (jv_dk t_X11_turnSharing (k := 17) rfl) rfl rfl (Or.inr ⟨_, rfl⟩) ?_
    refine jv_gR (jv_dk t_X11_turnSharing (k := 18) rfl) fl_X11_35 (fun v10 => ?_)
    refine jv_dup (jv_dk t_X11_turnSharing (k := 19) rfl) rfl ?_
    refine jv_gI (jv_dk t_X11_turnSharing (k := 20) rfl) fl_X11_229 (fun v11 => ?_)
    refine jv_iconst (v := 1) (jv_dk t_X11_turnSharing (k := 21) rfl) (by decide) ?_
    refine jv_iload_n (jv_dk t_X11_turnSharing (k := 22) rfl) rfl rfl ?_
    refine jv_ishl (jv_dk t_X11_turnSharing (k := 23) rfl) ?_
    refine jv_ixor (jv_dk t_X11_turnSharing (k := 24) rfl) ?_
    refine jv_pV (jv_dk t_X11_turnSharing (k := 25) rfl) fl_X11_229 kX2 (Or.inl rfl) rfl rfl rfl (fun h12 => ?_)
    refine jv_aload_n (jv_dk t_X11_turnSharing (k := 26) rfl) rfl rfl (Or.inr ⟨_, rfl⟩) ?_
    refine jv_gR (jv_dk t_X11_turnSharing (k := 27) rfl) fl_X11_35 (fun v13 => ?_)
    refine jv_iload_n (jv_dk t_X11_turnSharing (k := 28) rfl) rfl rfl ?_
    refine jv_callV (en' := jeI) (pv := jpI) (As := [.int (v3)]) (S := []) (jv_dk t_X11_turnSharing (k := 29) rfl) (fun _ => rfl) lk_X11_233 me_X2_isShared mv_X2_isShared ⟨by decide, by decide⟩ rfl rfl rfl (Nat.le_of_ble_eq_true rfl) (P_X2_isShared X v13 v3 h12) (fun v14 h15 => ?_)
    show jv_O X M_X11_turnSharing _ jeI 52 [some (.ref (a0)), some (.int (a1)), some (.int (v3))] [.int (v14)] h15 _
    refine jv_callS (en' := jeI) (pv := jpI) (As := [.int (v14)]) (S := []) (jv_dk t_X11_turnSharing (k := 30) rfl) (fun _ => rfl) lk_X11_236 me_X12_bit ms_X12_bit ⟨by decide, by decide⟩ rfl rfl (Nat.le_of_ble_eq_true rfl) (P_X12_bit X v14 h15) (fun v16 h17 => ?_)
    show jv_O X M_X11_turnSharing _ jeI 55 [some (.ref (a0)), some (.int (a1)), some (.int (v3))] [.int (v16)] h17 _
    exact jv_iret (ty := .int) (jv_dk t_X11_turnSharing (k := 31) rfl) rfl rfl rfl
  · show jv_O _ _ _ _ 27 _ _ _ _
    refine jv_iconst (v := (-1)) (jv_dk t_X11_turnSharing (k := 15) rfl) (by decide) ?_
    exact jv_iret (ty := .int) (jv_dk t_X11_turnSharing (k := 16) rfl) rfl rfl rfl
