def t0_X11_makeMountSpace : List (Nat × Instr × Nat) := [(0, .aload_n 0, 1), (1, .getfield 12, 3), (4, .getfield 156, 3), (7, .iload_n 1, 1), (8, .iaload, 1), (9, .istore_n 2, 1), (10, .aload_n 0, 1), (11, .getfield 12, 3), (14, .iload_n 1, 1), (15, .invokevirtual 140, 3), (18, .ifCond .ne 5, 3), (21, .iconst (-1), 1), (22, .ireturn, 1), (23, .aload_n 0, 1), (24, .getfield 35, 3), (27, .getfield 57, 3), (30, .iload_n 2, 1), (31, .invokevirtual 195, 3), (34, .istore_n 3, 1), (35, .iload_n 3, 1), (36, .iconst (-1), 1), (37, .if_icmp .ne 5, 3), (40, .iconst (-1), 1), (41, .ireturn, 1), (42, .aload_n 0, 1), (43, .getfield 35, 3), (46, .getfield 65, 3), (49, .iload_n 3, 1), (50, .aload_n 0, 1), (51, .getfield 12, 3), (54, .getfield 137, 3), (57, .iload_n 1, 1), (58, .iaload, 1), (59, .iastore, 1), (60, .aload_n 0, 1), (61, .getfield 35, 3), (64, .iload_n 2, 1), (65, .iload_n 3, 1), (66, .invokevirtual 202, 3), (69, .aload_n 0, 1), (70, .getfield 12, 3), (73, .getfield 156, 3), (76, .iload_n 1, 1), (77, .iload_n 3, 1), (78, .iastore, 1), (79, .iload_n 3, 1), (80, .ireturn, 1)]
theorem t_X11_makeMountSpace : jv_dec cX11_makeMountSpace t0_X11_makeMountSpace = true := by decide +kernel
def M_X11_makeMountSpace : jm := (yX11_makeMountSpace, cX11_makeMountSpace, 4, (some .int), 4, 87, [])
theorem fl_X11_156 : jv_F RX11 156 3 3 RX5 TX5 9 := ⟨rfl, by decide, inX5, Or.inr ⟨"SpaceWarden", (jv_at 227 (by decide +kernel))⟩⟩
theorem fl_X11_35 : jv_F RX11 35 9 3 RX11 TX11 4 := ⟨rfl, by decide, inX11, Or.inl (jv_at 376 (by decide +kernel))⟩
theorem fl_X11_57 : jv_F RX11 57 0 0 RX2 TX2 4 := ⟨rfl, by decide, inX2, Or.inr ⟨"SpaceWarden", (jv_at 347 (by decide +kernel))⟩⟩
theorem fl_X11_65 : jv_F RX11 65 0 1 RX2 TX2 4 := ⟨rfl, by decide, inX2, Or.inr ⟨"SpaceWarden", (jv_at 350 (by decide +kernel))⟩⟩
theorem lk_X11_202 : jv_lk RX11 202 M_X2_copyThings := Or.inr ⟨"SpaceWarden", (jv_at 683 (by decide +kernel))⟩
set_option maxRecDepth 20000 in
theorem me_X2_copyThings : jv_me M_X2_copyThings 2 := ⟨(jv_in3 (List.mem_of_getElem? (i := 46) rfl)), (jv_at 168 (by decide +kernel)), ⟨by decide, by decide⟩, by decide +kernel⟩
theorem mv_X2_copyThings : jv_mv M_X2_copyThings := ⟨(jv_at 685 (by decide +kernel)), (jv_at 31 (by decide +kernel))⟩
def f_X11_makeMountSpace (a0 : Nat) (a1 : Int32) (h : jh) : Option (Int32 × jh) :=
  gR h a0 9 0 fun v1 =>
  gR h v1 3 3 fun v2 =>
  aI h v2 a1 fun v3 =>
  gR h a0 9 0 fun v4 =>
  cV h v4 3 (f_X5_hasPower v4 a1 h) fun v5 h6 =>
  (if ¬ v5 = 0 then
  gR h6 a0 9 3 fun v8 =>
  gR h6 v8 0 0 fun v9 =>
  cV h6 v9 7 (f_X9_growAt v9 v3 h6) fun v10 h11 =>
  (if ¬ v10 = (-1) then
  gR h11 a0 9 3 fun v13 =>
  gR h11 v13 0 1 fun v14 =>
  gR h11 a0 9 0 fun v15 =>
  gR h11 v15 3 2 fun v16 =>
  aI h11 v16 a1 fun v17 =>
  sI h11 v14 v10 v17 fun h18 =>
  gR h18 a0 9 3 fun v19 =>
  cV h18 v19 0 (f_X2_copyThings v19 v3 v10 h18) fun _ h20 =>
  gR h20 a0 9 0 fun v21 =>
  gR h20 v21 3 3 fun v22 =>
  sI h20 v22 a1 v10 fun h23 =>
  some (v10, h23)
  else
  some ((-1), h11))
  else
  some ((-1), h6))
theorem P_X11_makeMountSpace (X : jx) (a0 : Nat) (a1 : Int32) (h : jh) : jv_P X M_X11_makeMountSpace jeI [.ref (a0), .int (a1)] h (f_X11_makeMountSpace a0 a1 h) := by
  refine jv_P.of (by decide) rfl (by simp [Value.category]) (Nat.le_of_ble_eq_true rfl) ?_
  show jv_O X M_X11_makeMountSpace (h.1, h.2.1) jeI 0 [some (.ref (a0)), some (.int (a1)), none, none] [] h (f_X11_makeMountSpace a0 a1 h)
  unfold f_X11_makeMountSpace
  refine jv_aload_n (jv_dk t_X11_makeMountSpace (k := 0) rfl) rfl rfl (Or.inr ⟨_, rfl⟩) ?_
  refine jv_gR (jv_dk t_X11_makeMountSpace (k := 1) rfl) fl_X11_12 (fun v1 => ?_)
  refine jv_gR (jv_dk t_X11_makeMountSpace (k := 2) rfl) fl_X11_156 (fun v2 => ?_)
  refine jv_iload_n (jv_dk t_X11_makeMountSpace (k := 3) rfl) rfl rfl ?_
  refine jv_iaload (jv_dk t_X11_makeMountSpace (k := 4) rfl) (fun v3 => ?_)
  refine jv_istore_n (L' := [some (.ref (a0)), some (.int (a1)), some (.int (v3)), none]) (jv_dk t_X11_makeMountSpace (k := 5) rfl) rfl (Nat.le_of_ble_eq_true rfl) rfl ?_
  refine jv_aload_n (jv_dk t_X11_makeMountSpace (k := 6) rfl) rfl rfl (Or.inr ⟨_, rfl⟩) ?_
  refine jv_gR (jv_dk t_X11_makeMountSpace (k := 7) rfl) fl_X11_12 (fun v4 => ?_)
  refine jv_iload_n (jv_dk t_X11_makeMountSpace (k := 8) rfl) rfl rfl ?_
  refine jv_callV (en' := jeI) (pv := jpI) (As := [.int (a1)]) (S := []) (jv_dk t_X11_makeMountSpace (k := 9) rfl) (fun _ => rfl) lk_X11_140 me_X5_hasPower mv_X5_hasPower ⟨by decide, by decide⟩ rfl rfl rfl (Nat.le_of_ble_eq_true rfl) (P_X5_hasPower X v4 a1 h) (fun v5 h6 => ?_)
  show jv_O X M_X11_makeMountSpace _ jeI 18 [some (.ref (a0)), some (.int (a1)), some (.int (v3)), none] [.int (v5)] h6 _
  refine jv_if_ne (tgt := 23) (jv_dk t_X11_makeMountSpace (k := 10) rfl) rfl (fun c7 => ?_) (fun c7 => ?_)
  · refine jv_aload_n (jv_dk t_X11_makeMountSpace (k := 13) rfl) rfl rfl (Or.inr ⟨_, rfl⟩) ?_
    refine jv_gR (jv_dk t_X11_makeMountSpace (k := 14) rfl) fl_X11_35 (fun v8 => ?_)
    refine jv_gR (jv_dk t_X11_makeMountSpace (k := 15) rfl) fl_X11_57 (fun v9 => ?_)
    refine jv_iload_n (jv_dk t_X11_makeMountSpace (k := 16) rfl) rfl rfl ?_
    refine jv_callV (en' := jeI) (pv := jpI) (As := [.int (v3)]) (S := []) (jv_dk t_X11_makeMountSpace (k := 17) rfl) (fun _ => rfl) lk_X11_195 me_X9_growAt mv_X9_growAt ⟨by decide, by decide⟩ rfl rfl rfl (Nat.le_of_ble_eq_true rfl) (P_X9_growAt X v9 v3 h6) (fun v10 h11 => ?_)
    show jv_O X M_X11_makeMountSpace _ jeI 34 [some (.ref (a0)), some (.int (a1)), some (.int (v3)), none] [.int (v10)] h11 _
    refine jv_istore_n (L' := [some (.ref (a0)), some (.int (a1)), some (.int (v3)), some (.int (v10))]) (jv_dk t_X11_makeMountSpace (k := 18) rfl) rfl (Nat.le_of_ble_eq_true rfl) rfl ?_
    refine jv_iload_n (jv_dk t_X11_makeMountSpace (k := 19) rfl) rfl rfl ?_
    refine jv_iconst (v := (-1)) (jv_dk t_X11_makeMountSpace (k := 20) rfl) (by decide) ?_
    refine jv_icmp_ne (tgt := 42) (jv_dk t_X11_makeMountSpace (k := 21) rfl) rfl (fun c12 => ?_) (fun c12 => ?_)
    · refine jv_aload_n (jv_dk t_X11_makeMountSpace (k := 24) rfl) rfl rfl (Or.inr ⟨_, rfl⟩) ?_
      refine jv_gR (jv_dk t_X11_makeMountSpace (k := 25) rfl) fl_X11_35 (fun v13 => ?_)
      refine jv_gR (jv_dk t_X11_makeMountSpace (k := 26) rfl) fl_X11_65 (fun v14 => ?_)
      refine jv_iload_n (jv_dk t_X11_makeMountSpace (k := 27) rfl) rfl rfl ?_
      refine jv_aload_n (jv_dk t_X11_makeMountSpace (k := 28) rfl) rfl rfl (Or.inr ⟨_, rfl⟩) ?_
      refine jv_gR (jv_dk t_X11_makeMountSpace (k := 29) rfl) fl_X11_12 (fun v15 => ?_)
      refine jv_gR (jv_dk t_X11_makeMountSpace (k := 30) rfl) fl_X11_137 (fun v16 => ?_)
      refine jv_iload_n (jv_dk t_X11_makeMountSpace (k := 31) rfl) rfl rfl ?_
      refine jv_iaload (jv_dk t_X11_makeMountSpace (k := 32) rfl) (fun v17 => ?_)
      refine jv_iastore (jv_dk t_X11_makeMountSpace (k := 33) rfl) (fun h18 => ?_)
      refine jv_aload_n (jv_dk t_X11_makeMountSpace (k := 34) rfl) rfl rfl (Or.inr ⟨_, rfl⟩) ?_
      refine jv_gR (jv_dk t_X11_makeMountSpace (k := 35) rfl) fl_X11_35 (fun v19 => ?_)
      refine jv_iload_n (jv_dk t_X11_makeMountSpace (k := 36) rfl) rfl rfl ?_
      refine jv_iload_n (jv_dk t_X11_makeMountSpace (k := 37) rfl) rfl rfl ?_
      refine jv_callV (en' := jeV) (pv := jpV) (As := [.int (v3), .int (v10)]) (S := []) (jv_dk t_X11_makeMountSpace (k := 38) rfl) (fun _ => rfl) lk_X11_202 me_X2_copyThings mv_X2_copyThings ⟨by decide, by decide⟩ rfl rfl rfl (Nat.le_of_ble_eq_true rfl) (P_X2_copyThings X v19 v3 v10 h18) (fun _ h20 => ?_)
      show jv_O X M_X11_makeMountSpace _ jeI 69 [some (.ref (a0)), some (.int (a1)), some (.int (v3)), some (.int (v10))] [] h20 _
      refine jv_aload_n (jv_dk t_X11_makeMountSpace (k := 39) rfl) rfl rfl (Or.inr ⟨_, rfl⟩) ?_
      refine jv_gR (jv_dk t_X11_makeMountSpace (k := 40) rfl) fl_X11_12 (fun v21 => ?_)
      refine jv_gR (jv_dk t_X11_makeMountSpace (k := 41) rfl) fl_X11_156 (fun v22 => ?_)
      refine jv_iload_n (jv_dk t_X11_makeMountSpace (k := 42) rfl) rfl rfl ?_
      refine jv_iload_n (jv_dk t_X11_makeMountSpace (k := 43) rfl) rfl rfl ?_
      refine jv_iastore (jv_dk t_X11_makeMountSpace (k := 44) rfl) (fun h23 => ?_)
      refine jv_iload_n (jv_dk t_X11_makeMountSpace (k := 45) rfl) rfl rfl ?_
      exact jv_iret (ty := .int) (jv_dk t_X11_makeMountSpace (k := 46) rfl) rfl rfl rfl
    · show jv_O _ _ _ _ 40 _ _ _ _
      refine jv_iconst (v := (-1)) (jv_dk t_X11_makeMountSpace (k := 22) rfl) (by decide) ?_
      exact jv_iret (ty := .int) (jv_dk t_X11_makeMountSpace (k := 23) rfl) rfl rfl rfl
  · show jv_O _ _ _ _ 21 _ _ _ _
    refine jv_iconst (v := (-1)) (jv_dk t_X11_makeMountSpace (k := 11) rfl) (by decide) ?_
    exact jv_iret (ty := .int) (jv_dk t_X11_makeMountSpace (k := 12) rfl) rfl rfl rfl
def t0_X12_isId : List (Nat × Instr × Nat) := [(0, .iload_n 0, 1), (1, .ifCond .lt 13, 3), (4, .iload_n 0, 1), (5, .bipush 100, 2), (7, .if_icmp .ge 7, 3), (10, .iconst 1, 1), (11, .goto 4, 3), (14, .iconst 0, 1), (15, .ireturn, 1)]
theorem t_X12_isId : jv_dec cX12_isId t0_X12_isId = true := by decide +kernel
def M_X12_isId : jm := (yX12_isId, cX12_isId, 1, (some .boolean), 0, 0, [])
def f_X12_isId (a0 : Int32) (h : jh) : Option (Int32 × jh) :=
  (if a0 < 0 then
  some (0, h)
  else
  (if 100 ≤ a0 then
  some (0, h)
  else
  some (1, h)))
theorem P_X12_isId (X : jx) (a0 : Int32) (h : jh) : jv_P X M_X12_isId jeI [.int (a0)] h (f_X12_isId a0 h) := by
  refine jv_P.of (by decide) rfl (by simp [Value.category]) (Nat.le_of_ble_eq_true rfl) ?_
  show jv_O X M_X12_isId (h.1, h.2.1) jeI 0 [some (.int (a0))] [] h (f_X12_isId a0 h)
  unfold f_X12_isId
  refine jv_iload_n (jv_dk t_X12_isId (k := 0) rfl) rfl rfl ?_
  refine jv_if_lt (tgt := 14) (jv_dk t_X12_isId (k := 1) rfl) rfl (fun c1 => ?_) (fun c1 => ?_)
  · refine jv_iconst (v := 0) (jv_dk t_X12_isId (k := 7) rfl) (by decide) ?_
    exact jv_iret (ty := .boolean) (jv_dk t_X12_isId (k := 8) rfl) rfl rfl rfl
  · show jv_O _ _ _ _ 4 _ _ _ _
    refine jv_iload_n (jv_dk t_X12_isId (k := 2) rfl) rfl rfl ?_
    refine jv_bipush (v := 100) (jv_dk t_X12_isId (k := 3) rfl) (by decide) ?_
    refine jv_icmp_ge (tgt := 14) (jv_dk t_X12_isId (k := 4) rfl) rfl (fun c2 => ?_) (fun c2 => ?_)
    · refine jv_iconst (v := 0) (jv_dk t_X12_isId (k := 7) rfl) (by decide) ?_
      exact jv_iret (ty := .boolean) (jv_dk t_X12_isId (k := 8) rfl) rfl rfl rfl
    · show jv_O _ _ _ _ 10 _ _ _ _
      refine jv_iconst (v := 1) (jv_dk t_X12_isId (k := 5) rfl) (by decide) ?_
      refine jv_goto (tgt := 15) (jv_dk t_X12_isId (k := 6) rfl) rfl ?_
      exact jv_iret (ty := .boolean) (jv_dk t_X12_isId (k := 8) rfl) rfl rfl rfl
def t0_X10_isApart : List (Nat × Instr × Nat) := [(0, .iconst 0, 1), (1, .istore 5, 2), (3, .iload 5, 2), (5, .aload_n 0, 1), (6, .getfield 22, 3), (9, .iload_n 1, 1), (10, .iaload, 1), (11, .if_icmp .ge 115, 3), (14, .iload 5, 2), (16, .iconst 3, 1), (17, .if_icmp .ge 109, 3), (20, .iload_n 1, 1), (21, .iconst 3, 1), (22, .imul, 1), (23, .iload 5, 2), (25, .iadd, 1), (26, .istore 6, 2), (28, .iload_n 2, 1), (29, .aload_n 0, 1), (30, .getfield 25, 3), (33, .iload 6, 2), (35, .iaload, 1), (36, .aload_n 0, 1), (37, .getfield 31, 3), (40, .iload 6, 2), (42, .iaload, 1), (43, .iadd, 1), (44, .if_icmp .ge 21, 3), (47, .aload_n 0, 1), (48, .getfield 25, 3), (51, .iload 6, 2), (53, .iaload, 1), (54, .iload_n 2, 1), (55, .iload 4, 2), (57, .iadd, 1), (58, .if_icmp .ge 7, 3), (61, .iconst 1, 1), (62, .goto 4, 3), (65, .iconst 0, 1), (66, .istore 7, 2), (68, .iload_n 3, 1), (69, .aload_n 0, 1), (70, .getfield 28, 3), (73, .iload 6, 2), (75, .iaload, 1), (76, .aload_n 0, 1), (77, .getfield 31, 3), (80, .iload 6, 2), (82, .iaload, 1), (83, .iadd, 1), (84, .if_icmp .ge 21, 3), (87, .aload_n 0, 1), (88, .getfield 28, 3), (91, .iload 6, 2), (93, .iaload, 1), (94, .iload_n 3, 1), (95, .iload 4, 2), (97, .iadd, 1), (98, .if_icmp .ge 7, 3), (101, .iconst 1, 1), (102, .goto 4, 3), (105, .iconst 0, 1), (106, .istore 8, 2), (108, .iload 7, 2), (110, .ifCond .ne 8, 3), (113, .iload 8, 2), (115, .ifCond .eq 5, 3), (118, .iconst 0, 1), (119, .ireturn, 1), (120, .iinc 5 1, 3), (123, .goto (-120), 3), (126, .iconst 1, 1), (127, .ireturn, 1)]
theorem t_X10_isApart : jv_dec cX10_isApart t0_X10_isApart = true := by decide +kernel
def M_X10_isApart : jm := (yX10_isApart, cX10_isApart, 9, (some .boolean), 0, 0, [])
theorem fl_X10_22 : jv_F RX10 22 8 2 RX10 TX10 6 := ⟨rfl, by decide, inX10, Or.inl (jv_at 316 (by decide +kernel))⟩
theorem fl_X10_25 : jv_F RX10 25 8 3 RX10 TX10 6 := ⟨rfl, by decide, inX10, Or.inl (jv_at 319 (by decide +kernel))⟩
theorem fl_X10_31 : jv_F RX10 31 8 5 RX10 TX10 6 := ⟨rfl, by decide, inX10, Or.inl (jv_at 323 (by decide +kernel))⟩
theorem fl_X10_28 : jv_F RX10 28 8 4 RX10 TX10 6 := ⟨rfl, by decide, inX10, Or.inl (jv_at 321 (by decide +kernel))⟩
def f_X10_isApart_b106 (R3 : Nat → Int32 → Int32 → Int32 → Int32 → Int32 → jh → Option (Int32 × jh)) (K3 : jh → Option (Int32 × jh)) (x0 : Nat) (x1 : Int32) (x2 : Int32) (x3 : Int32) (x4 : Int32) (x5 : Int32) (x7 : Int32) (s0 : Int32) (h : jh) : Option (Int32 × jh) :=
  (if ¬ x7 = 0 then
  some (0, h)
  else
  (if s0 = 0 then
  R3 x0 x1 x2 x3 x4 (x5 + 1) h
  else
  some (0, h)))
theorem o_f_X10_isApart_b106 {X : jx} {b0 : Nat × Nat} {R3 : Nat → Int32 → Int32 → Int32 → Int32 → Int32 → jh → Option (Int32 × jh)} {K3 : jh → Option (Int32 × jh)} (hR3 : ∀ (x0 : Nat) (x1 : Int32) (x2 : Int32) (x3 : Int32) (x4 : Int32) (x5 : Int32) (h : jh), jv_O X M_X10_isApart b0 jeI 3 [some (.ref (x0)), some (.int (x1)), some (.int (x2)), some (.int (x3)), some (.int (x4)), some (.int (x5)), none, none, none] [] h (R3 x0 x1 x2 x3 x4 x5 h)) (hK3 : ∀  (h : jh), jv_O X M_X10_isApart b0 jeI 126 [none, none, none, none, none, none, none, none, none] [] h (K3  h)) (x0 : Nat) (x1 : Int32) (x2 : Int32) (x3 : Int32) (x4 : Int32) (x5 : Int32) (x7 : Int32) (s0 : Int32) (h : jh) : jv_O X M_X10_isApart b0 jeI 106 [some (.ref (x0)), some (.int (x1)), some (.int (x2)), some (.int (x3)), some (.int (x4)), some (.int (x5)), none, some (.int (x7)), none] [.int (s0)] h (f_X10_isApart_b106 R3 K3 x0 x1 x2 x3 x4 x5 x7 s0 h) := by
  unfold f_X10_isApart_b106
  refine jv_istore (L' := [some (.ref (x0)), some (.int (x1)), some (.int (x2)), some (.int (x3)), some (.int (x4)), some (.int (x5)), none, some (.int (x7)), some (.int (s0))]) (jv_dk t_X10_isApart (k := 62) rfl) (Nat.le_of_ble_eq_true rfl) rfl ?_
  refine jv_iload (jv_dk t_X10_isApart (k := 63) rfl) rfl ?_
  refine jv_if_ne (tgt := 118) (jv_dk t_X10_isApart (k := 64) rfl) rfl (fun c15 => ?_) (fun c15 => ?_)
  · refine jv_iconst (v := 0) (jv_dk t_X10_isApart (k := 67) rfl) (by decide) ?_
    exact jv_iret (ty := .boolean) (jv_dk t_X10_isApart (k := 68) rfl) rfl rfl rfl
  · show jv_O _ _ _ _ 113 _ _ _ _
    refine jv_iload (jv_dk t_X10_isApart (k := 65) rfl) rfl ?_
    refine jv_if_eq (tgt := 120) (jv_dk t_X10_isApart (k := 66) rfl) rfl (fun c16 => ?_) (fun c16 => ?_)
    · refine jv_iinc (v := 1) (L' := [some (.ref (x0)), some (.int (x1)), some (.int (x2)), some (.int (x3)), some (.int (x4)), some (.int (x5 + 1)), none, some (.int (x7)), some (.int (s0))]) (jv_dk t_X10_isApart (k := 69) rfl) rfl (by decide) rfl ?_
      refine jv_goto (tgt := 3) (jv_dk t_X10_isApart (k := 70) rfl) rfl ?_
      refine jv_le_row (jv_le_s (jv_le_s (jv_le_s (jv_le_s (jv_le_s (jv_le_s (jv_le_n (jv_le_n (jv_le_n (jv_le_nil)))))))))) ?_
      exact hR3 _ _ _ _ _ _ _ 
    · show jv_O _ _ _ _ 118 _ _ _ _
      refine jv_iconst (v := 0) (jv_dk t_X10_isApart (k := 67) rfl) (by decide) ?_
      exact jv_iret (ty := .boolean) (jv_dk t_X10_isApart (k := 68) rfl) rfl rfl rfl
def f_X10_isApart_b66 (R3 : Nat → Int32 → Int32 → Int32 → Int32 → Int32 → jh → Option (Int32 × jh)) (K3 : jh → Option (Int32 × jh)) (x0 : Nat) (x1 : Int32) (x2 : Int32) (x3 : Int32) (x4 : Int32) (x5 : Int32) (x6 : Int32) (s0 : Int32) (h : jh) : Option (Int32 × jh) :=
  gR h x0 8 4 fun v10 =>
  aI h v10 x6 fun v11 =>
  gR h x0 8 5 fun v12 =>
  aI h v12 x6 fun v13 =>
  (if (v11 + v13) ≤ x3 then
  f_X10_isApart_b106 R3 K3 x0 x1 x2 x3 x4 x5 s0 0 h
  else
  gR h x0 8 4 fun v17 =>
  aI h v17 x6 fun v18 =>
  (if (x3 + x4) ≤ v18 then
  f_X10_isApart_b106 R3 K3 x0 x1 x2 x3 x4 x5 s0 0 h
  else
  f_X10_isApart_b106 R3 K3 x0 x1 x2 x3 x4 x5 s0 1 h))
theorem o_f_X10_isApart_b66 {X : jx} {b0 : Nat × Nat} {R3 : Nat → Int32 → Int32 → Int32 → Int32 → Int32 → jh → Option (Int32 × jh)} {K3 : jh → Option (Int32 × jh)} (hR3 : ∀ (x0 : Nat) (x1 : Int32) (x2 : Int32) (x3 : Int32) (x4 : Int32) (x5 : Int32) (h : jh), jv_O X M_X10_isApart b0 jeI 3 [some (.ref (x0)), some (.int (x1)), some (.int (x2)), some (.int (x3)), some (.int (x4)), some (.int (x5)), none, none, none] [] h (R3 x0 x1 x2 x3 x4 x5 h)) (hK3 : ∀  (h : jh), jv_O X M_X10_isApart b0 jeI 126 [none, none, none, none, none, none, none, none, none] [] h (K3  h)) (x0 : Nat) (x1 : Int32) (x2 : Int32) (x3 : Int32) (x4 : Int32) (x5 : Int32) (x6 : Int32) (s0 : Int32) (h : jh) : jv_O X M_X10_isApart b0 jeI 66 [some (.ref (x0)), some (.int (x1)), some (.int (x2)), some (.int (x3)), some (.int (x4)), some (.int (x5)), some (.int (x6)), none, none] [.int (s0)] h (f_X10_isApart_b66 R3 K3 x0 x1 x2 x3 x4 x5 x6 s0 h) := by
  unfold f_X10_isApart_b66
  refine jv_istore (L' := [some (.ref (x0)), some (.int (x1)), some (.int (x2)), some (.int (x3)), some (.int (x4)), some (.int (x5)), some (.int (x6)), some (.int (s0)), none]) (jv_dk t_X10_isApart (k := 39) rfl) (Nat.le_of_ble_eq_true rfl) rfl ?_
  refine jv_iload_n (jv_dk t_X10_isApart (k := 40) rfl) rfl rfl ?_
  refine jv_aload_n (jv_dk t_X10_isApart (k := 41) rfl) rfl rfl (Or.inr ⟨_, rfl⟩) ?_
  refine jv_gR (jv_dk t_X10_isApart (k := 42) rfl) fl_X10_28 (fun v10 => ?_)
  refine jv_iload (jv_dk t_X10_isApart (k := 43) rfl) rfl ?_
  refine jv_iaload (jv_dk t_X10_isApart (k := 44) rfl) (fun v11 => ?_)
  refine jv_aload_n (jv_dk t_X10_isApart (k := 45) rfl) rfl rfl (Or.inr ⟨_, rfl⟩) ?_
  refine jv_gR (jv_dk t_X10_isApart (k := 46) rfl) fl_X10_31 (fun v12 => ?_)
  refine jv_iload (jv_dk t_X10_isApart (k := 47) rfl) rfl ?_
  refine jv_iaload (jv_dk t_X10_isApart (k := 48) rfl) (fun v13 => ?_)
  refine jv_iadd (jv_dk t_X10_isApart (k := 49) rfl) ?_
  refine jv_icmp_ge (tgt := 105) (jv_dk t_X10_isApart (k := 50) rfl) rfl (fun c14 => ?_) (fun c14 => ?_)
  · refine jv_iconst (v := 0) (jv_dk t_X10_isApart (k := 61) rfl) (by decide) ?_
    refine jv_le_row (jv_le_s (jv_le_s (jv_le_s (jv_le_s (jv_le_s (jv_le_s (jv_le_n (jv_le_s (jv_le_n (jv_le_nil)))))))))) ?_
    exact o_f_X10_isApart_b106 hR3 hK3 _ _ _ _ _ _ _ _ _ 
  · show jv_O _ _ _ _ 87 _ _ _ _
    refine jv_aload_n (jv_dk t_X10_isApart (k := 51) rfl) rfl rfl (Or.inr ⟨_, rfl⟩) ?_
    refine jv_gR (jv_dk t_X10_isApart (k := 52) rfl) fl_X10_28 (fun v17 => ?_)
    refine jv_iload (jv_dk t_X10_isApart (k := 53) rfl) rfl ?_
    refine jv_iaload (jv_dk t_X10_isApart (k := 54) rfl) (fun v18 => ?_)
    refine jv_iload_n (jv_dk t_X10_isApart (k := 55) rfl) rfl rfl ?_
    refine jv_iload (jv_dk t_X10_isApart (k := 56) rfl) rfl ?_
    refine jv_iadd (jv_dk t_X10_isApart (k := 57) rfl) ?_
    refine jv_icmp_ge (tgt := 105) (jv_dk t_X10_isApart (k := 58) rfl) rfl (fun c19 => ?_) (fun c19 => ?_)
    · refine jv_iconst (v := 0) (jv_dk t_X10_isApart (k := 61) rfl) (by decide) ?_
      refine jv_le_row (jv_le_s (jv_le_s (jv_le_s (jv_le_s (jv_le_s (jv_le_s (jv_le_n (jv_le_s (jv_le_n (jv_le_nil)))))))))) ?_
      exact o_f_X10_isApart_b106 hR3 hK3 _ _ _ _ _ _ _ _ _ 
    · show jv_O _ _ _ _ 101 _ _ _ _
      refine jv_iconst (v := 1) (jv_dk t_X10_isApart (k := 59) rfl) (by decide) ?_
      refine jv_goto (tgt := 106) (jv_dk t_X10_isApart (k := 60) rfl) rfl ?_
      refine jv_le_row (jv_le_s (jv_le_s (jv_le_s (jv_le_s (jv_le_s (jv_le_s (jv_le_n (jv_le_s (jv_le_n (jv_le_nil)))))))))) ?_
      exact o_f_X10_isApart_b106 hR3 hK3 _ _ _ _ _ _ _ _ _ 
def f_X10_isApart_h3 (K3 : jh → Option (Int32 × jh)) (R3 : Nat → Int32 → Int32 → Int32 → Int32 → Int32 → jh → Option (Int32 × jh)) (x0 : Nat) (x1 : Int32) (x2 : Int32) (x3 : Int32) (x4 : Int32) (x5 : Int32) (h : jh) : Option (Int32 × jh) :=
  gR h x0 8 2 fun v1 =>
  aI h v1 x1 fun v2 =>
  (if v2 ≤ x5 then
  K3  h
  else
  (if 3 ≤ x5 then
  K3  h
  else
  gR h x0 8 3 fun v5 =>
  aI h v5 ((x1 * 3) + x5) fun v6 =>
  gR h x0 8 5 fun v7 =>
  aI h v7 ((x1 * 3) + x5) fun v8 =>
  (if (v6 + v8) ≤ x2 then
  f_X10_isApart_b66 R3 K3 x0 x1 x2 x3 x4 x5 ((x1 * 3) + x5) 0 h
  else
  gR h x0 8 3 fun v20 =>
  aI h v20 ((x1 * 3) + x5) fun v21 =>
  (if (x2 + x4) ≤ v21 then
  f_X10_isApart_b66 R3 K3 x0 x1 x2 x3 x4 x5 ((x1 * 3) + x5) 0 h
  else
  f_X10_isApart_b66 R3 K3 x0 x1 x2 x3 x4 x5 ((x1 * 3) + x5) 1 h))))
theorem o_f_X10_isApart_h3 {X : jx} {b0 : Nat × Nat} {K3 : jh → Option (Int32 × jh)} (hK3 : ∀  (h : jh), jv_O X M_X10_isApart b0 jeI 126 [none, none, none, none, none, none, none, none, none] [] h (K3  h)) : ∀ (x0 : Nat) (x1 : Int32) (x2 : Int32) (x3 : Int32) (x4 : Int32) (x5 : Int32) (h : jh), jv_O X M_X10_isApart b0 jeI 3 [some (.ref (x0)), some (.int (x1)), some (.int (x2)), some (.int (x3)), some (.int (x4)), some (.int (x5)), none, none, none] [] h (jlp6 (f_X10_isApart_h3 K3) jfu x0 x1 x2 x3 x4 x5 h) := by
  refine jlp6_ok (P := fun x0 x1 x2 x3 x4 x5 h o => jv_O X M_X10_isApart b0 jeI 3 [some (.ref (x0)), some (.int (x1)), some (.int (x2)), some (.int (x3)), some (.int (x4)), some (.int (x5)), none, none, none] [] h o) (fun R3 hR3 => ?_) (fun _ _ _ _ _ _ _  => jv_none rfl) jfu
  intro x0 x1 x2 x3 x4 x5 h
  unfold f_X10_isApart_h3
  refine jv_iload (jv_dk t_X10_isApart (k := 2) rfl) rfl ?_
  refine jv_aload_n (jv_dk t_X10_isApart (k := 3) rfl) rfl rfl (Or.inr ⟨_, rfl⟩) ?_
  refine jv_gR (jv_dk t_X10_isApart (k := 4) rfl) fl_X10_22 (fun v1 => ?_)
  refine jv_iload_n (jv_dk t_X10_isApart (k := 5) rfl) rfl rfl ?_
  refine jv_iaload (jv_dk t_X10_isApart (k := 6) rfl) (fun v2 => ?_)
  refine jv_icmp_ge (tgt := 126) (jv_dk t_X10_isApart (k := 7) rfl) rfl (fun c3 => ?_) (fun c3 => ?_)
  · refine jv_le_row (jv_le_n (jv_le_n (jv_le_n (jv_le_n (jv_le_n (jv_le_n (jv_le_n (jv_le_n (jv_le_n (jv_le_nil)))))))))) ?_
    exact hK3 _ 
  · show jv_O _ _ _ _ 14 _ _ _ _
    refine jv_iload (jv_dk t_X10_isApart (k := 8) rfl) rfl ?_
    refine jv_iconst (v := 3) (jv_dk t_X10_isApart (k := 9) rfl) (by decide) ?_
    refine jv_icmp_ge (tgt := 126) (jv_dk t_X10_isApart (k := 10) rfl) rfl (fun c4 => ?_) (fun c4 => ?_)
    · refine jv_le_row (jv_le_n (jv_le_n (jv_le_n (jv_le_n (jv_le_n (jv_le_n (jv_le_n (jv_le_n (jv_le_n (jv_le_nil)))))))))) ?_
      exact hK3 _ 
    · show jv_O _ _ _ _ 20 _ _ _ _
      refine jv_iload_n (jv_dk t_X10_isApart (k := 11) rfl) rfl rfl ?_
      refine jv_iconst (v := 3) (jv_dk t_X10_isApart (k := 12) rfl) (by decide) ?_
      refine jv_imul (jv_dk t_X10_isApart (k := 13) rfl) ?_
      refine jv_iload (jv_dk t_X10_isApart (k := 14) rfl) rfl ?_
      refine jv_iadd (jv_dk t_X10_isApart (k := 15) rfl) ?_
      refine jv_istore (L' := [some (.ref (x0)), some (.int (x1)), some (.int (x2)), some (.int (x3)), some (.int (x4)), some (.int (x5)), some (.int ((x1 * 3) + x5)), none, none]) (jv_dk t_X10_isApart (k := 16) rfl) (Nat.le_of_ble_eq_true rfl) rfl ?_
      refine jv_iload_n (jv_dk t_X10_isApart (k := 17) rfl) rfl rfl ?_
      refine jv_aload_n (jv_dk t_X10_isApart (k := 18) rfl) rfl rfl (Or.inr ⟨_, rfl⟩) ?_
      refine jv_gR (jv_dk t_X10_isApart (k := 19) rfl) fl_X10_25 (fun v5 => ?_)
      refine jv_iload (jv_dk t_X10_isApart (k := 20) rfl) rfl ?_
      refine jv_iaload (jv_dk t_X10_isApart (k := 21) rfl) (fun v6 => ?_)
      refine jv_aload_n (jv_dk t_X10_isApart (k := 22) rfl) rfl rfl (Or.inr ⟨_, rfl⟩) ?_
      refine jv_gR (jv_dk t_X10_isApart (k := 23) rfl) fl_X10_31 (fun v7 => ?_)
      refine jv_iload (jv_dk t_X10_isApart (k := 24) rfl) rfl ?_
      refine jv_iaload (jv_dk t_X10_isApart (k := 25) rfl) (fun v8 => ?_)
      refine jv_iadd (jv_dk t_X10_isApart (k := 26) rfl) ?_
      refine jv_icmp_ge (tgt := 65) (jv_dk t_X10_isApart (k := 27) rfl) rfl (fun c9 => ?_) (fun c9 => ?_)
      · refine jv_iconst (v := 0) (jv_dk t_X10_isApart (k := 38) rfl) (by decide) ?_
        exact o_f_X10_isApart_b66 hR3 hK3 _ _ _ _ _ _ _ _ _ 
      · show jv_O _ _ _ _ 47 _ _ _ _
        refine jv_aload_n (jv_dk t_X10_isApart (k := 28) rfl) rfl rfl (Or.inr ⟨_, rfl⟩) ?_
        refine jv_gR (jv_dk t_X10_isApart (k := 29) rfl) fl_X10_25 (fun v20 => ?_)
        refine jv_iload (jv_dk t_X10_isApart (k := 30) rfl) rfl ?_
        refine jv_iaload (jv_dk t_X10_isApart (k := 31) rfl) (fun v21 => ?_)
        refine jv_iload_n (jv_dk t_X10_isApart (k := 32) rfl) rfl rfl ?_
        refine jv_iload (jv_dk t_X10_isApart (k := 33) rfl) rfl ?_
        refine jv_iadd (jv_dk t_X10_isApart (k := 34) rfl) ?_
        refine jv_icmp_ge (tgt := 65) (jv_dk t_X10_isApart (k := 35) rfl) rfl (fun c22 => ?_) (fun c22 => ?_)
        · refine jv_iconst (v := 0) (jv_dk t_X10_isApart (k := 38) rfl) (by decide) ?_
          exact o_f_X10_isApart_b66 hR3 hK3 _ _ _ _ _ _ _ _ _ 
        · show jv_O _ _ _ _ 61 _ _ _ _
          refine jv_iconst (v := 1) (jv_dk t_X10_isApart (k := 36) rfl) (by decide) ?_
          refine jv_goto (tgt := 66) (jv_dk t_X10_isApart (k := 37) rfl) rfl ?_
          exact o_f_X10_isApart_b66 hR3 hK3 _ _ _ _ _ _ _ _ _ 
def f_X10_isApart (a0 : Nat) (a1 : Int32) (a2 : Int32) (a3 : Int32) (a4 : Int32) (h : jh) : Option (Int32 × jh) :=
  jlp6 (f_X10_isApart_h3 (fun  h23 =>
  some (1, h23))) jfu a0 a1 a2 a3 a4 0 h
theorem P_X10_isApart (X : jx) (a0 : Nat) (a1 : Int32) (a2 : Int32) (a3 : Int32) (a4 : Int32) (h : jh) : jv_P X M_X10_isApart jeI [.ref (a0), .int (a1), .int (a2), .int (a3), .int (a4)] h (f_X10_isApart a0 a1 a2 a3 a4 h) := by
  refine jv_P.of (by decide) rfl (by simp [Value.category]) (Nat.le_of_ble_eq_true rfl) ?_
  show jv_O X M_X10_isApart (h.1, h.2.1) jeI 0 [some (.ref (a0)), some (.int (a1)), some (.int (a2)), some (.int (a3)), some (.int (a4)), none, none, none, none] [] h (f_X10_isApart a0 a1 a2 a3 a4 h)
  unfold f_X10_isApart
  refine jv_iconst (v := 0) (jv_dk t_X10_isApart (k := 0) rfl) (by decide) ?_
  refine jv_istore (L' := [some (.ref (a0)), some (.int (a1)), some (.int (a2)), some (.int (a3)), some (.int (a4)), some (.int (0)), none, none, none]) (jv_dk t_X10_isApart (k := 1) rfl) (Nat.le_of_ble_eq_true rfl) rfl ?_
  refine o_f_X10_isApart_h3 (fun  h23 => ?_) _ _ _ _ _ _ _ 
  show jv_O X M_X10_isApart _ jeI 126 [none, none, none, none, none, none, none, none, none] [] h23 _
  refine jv_iconst (v := 1) (jv_dk t_X10_isApart (k := 71) rfl) (by decide) ?_
  exact jv_iret (ty := .boolean) (jv_dk t_X10_isApart (k := 72) rfl) rfl rfl rfl
def t0_X10_through : List (Nat × Instr × Nat) := [(0, .iload_n 1, 1), (1, .ifCond .lt 9, 3), (4, .iload_n 1, 1), (5, .bipush 8, 2), (7, .if_icmp .lt 6, 3), (10, .ldc 57, 2), (12, .ireturn, 1), (13, .iconst 0, 1), (14, .istore 5, 2), (16, .iload 5, 2), (18, .aload_n 0, 1), (19, .getfield 22, 3), (22, .iload_n 1, 1), (23, .iaload, 1), (24, .if_icmp .ge 60, 3), (27, .iload 5, 2), (29, .iconst 3, 1), (30, .if_icmp .ge 54, 3), (33, .iload_n 1, 1), (34, .iconst 3, 1), (35, .imul, 1), (36, .iload 5, 2), (38, .iadd, 1), (39, .istore 6, 2), (41, .iload_n 2, 1), (42, .aload_n 3, 1), (43, .iload 6, 2), (45, .iaload, 1), (46, .if_icmp .lt 32, 3), (49, .iload_n 2, 1), (50, .aload_n 3, 1), (51, .iload 6, 2), (53, .iaload, 1), (54, .aload_n 0, 1), (55, .getfield 31, 3), (58, .iload 6, 2), (60, .iaload, 1), (61, .iadd, 1), (62, .if_icmp .ge 16, 3), (65, .aload 4, 2), (67, .iload 6, 2), (69, .iaload, 1), (70, .iload_n 2, 1), (71, .iadd, 1), (72, .aload_n 3, 1), (73, .iload 6, 2), (75, .iaload, 1), (76, .isub, 1), (77, .ireturn, 1), (78, .iinc 5 1, 3), (81, .goto (-65), 3), (84, .ldc 57, 2), (86, .ireturn, 1)]
theorem t_X10_through : jv_dec cX10_through t0_X10_through = true := by decide +kernel
def M_X10_through : jm := (yX10_through, cX10_through, 7, (some .int), 0, 0, [])
theorem cn_X10_57 : Cond.constant RX10 57 65534 ∈ lw_tbl := (jv_at 716 (by decide +kernel))
def f_X10_through_h16 (K16 : jh → Option (Int32 × jh)) (R16 : Nat → Int32 → Int32 → Nat → Nat → Int32 → jh → Option (Int32 × jh)) (x0 : Nat) (x1 : Int32) (x2 : Int32) (x3 : Nat) (x4 : Nat) (x5 : Int32) (h : jh) : Option (Int32 × jh) :=
  gR h x0 8 2 fun v3 =>
  aI h v3 x1 fun v4 =>
  (if v4 ≤ x5 then
  K16  h
  else
  (if 3 ≤ x5 then
  K16  h
  else
  aI h x3 ((x1 * 3) + x5) fun v7 =>
  (if x2 < v7 then
  R16 x0 x1 x2 x3 x4 (x5 + 1) h
  else
  aI h x3 ((x1 * 3) + x5) fun v9 =>
  gR h x0 8 5 fun v10 =>
  aI h v10 ((x1 * 3) + x5) fun v11 =>
  (if (v9 + v11) ≤ x2 then
  R16 x0 x1 x2 x3 x4 (x5 + 1) h
  else
  aI h x4 ((x1 * 3) + x5) fun v13 =>
  aI h x3 ((x1 * 3) + x5) fun v14 =>
  some ((v13 + x2) - v14, h)))))
theorem o_f_X10_through_h16 {X : jx} {b0 : Nat × Nat} {K16 : jh → Option (Int32 × jh)} (hK16 : ∀  (h : jh), jv_O X M_X10_through b0 jeI 84 [none, none, none, none, none, none, none] [] h (K16  h)) : ∀ (x0 : Nat) (x1 : Int32) (x2 : Int32) (x3 : Nat) (x4 : Nat) (x5 : Int32) (h : jh), jv_O X M_X10_through b0 jeI 16 [some (.ref (x0)), some (.int (x1)), some (.int (x2)), some (.ref (x3)), some (.ref (x4)), some (.int (x5)), none] [] h (jlp6 (f_X10_through_h16 K16) jfu x0 x1 x2 x3 x4 x5 h) := by
  refine jlp6_ok (P := fun x0 x1 x2 x3 x4 x5 h o => jv_O X M_X10_through b0 jeI 16 [some (.ref (x0)), some (.int (x1)), some (.int (x2)), some (.ref (x3)), some (.ref (x4)), some (.int (x5)), none] [] h o) (fun R16 hR16 => ?_) (fun _ _ _ _ _ _ _  => jv_none rfl) jfu
  intro x0 x1 x2 x3 x4 x5 h
  unfold f_X10_through_h16
  refine jv_iload (jv_dk t_X10_through (k := 9) rfl) rfl ?_
  refine jv_aload_n (jv_dk t_X10_through (k := 10) rfl) rfl rfl (Or.inr ⟨_, rfl⟩) ?_
  refine jv_gR (jv_dk t_X10_through (k := 11) rfl) fl_X10_22 (fun v3 => ?_)
  refine jv_iload_n (jv_dk t_X10_through (k := 12) rfl) rfl rfl ?_
  refine jv_iaload (jv_dk t_X10_through (k := 13) rfl) (fun v4 => ?_)
  refine jv_icmp_ge (tgt := 84) (jv_dk t_X10_through (k := 14) rfl) rfl (fun c5 => ?_) (fun c5 => ?_)
  · refine jv_le_row (jv_le_n (jv_le_n (jv_le_n (jv_le_n (jv_le_n (jv_le_n (jv_le_n (jv_le_nil)))))))) ?_
    exact hK16 _ 
  · show jv_O _ _ _ _ 27 _ _ _ _
    refine jv_iload (jv_dk t_X10_through (k := 15) rfl) rfl ?_
    refine jv_iconst (v := 3) (jv_dk t_X10_through (k := 16) rfl) (by decide) ?_
    refine jv_icmp_ge (tgt := 84) (jv_dk t_X10_through (k := 17) rfl) rfl (fun c6 => ?_) (fun c6 => ?_)
    · refine jv_le_row (jv_le_n (jv_le_n (jv_le_n (jv_le_n (jv_le_n (jv_le_n (jv_le_n (jv_le_nil)))))))) ?_
      exact hK16 _ 
    · show jv_O _ _ _ _ 33 _ _ _ _
      refine jv_iload_n (jv_dk t_X10_through (k := 18) rfl) rfl rfl ?_
      refine jv_iconst (v := 3) (jv_dk t_X10_through (k := 19) rfl) (by decide) ?_
      refine jv_imul (jv_dk t_X10_through (k := 20) rfl) ?_
      refine jv_iload (jv_dk t_X10_through (k := 21) rfl) rfl ?_
      refine jv_iadd (jv_dk t_X10_through (k := 22) rfl) ?_
      refine jv_istore (L' := [some (.ref (x0)), some (.int (x1)), some (.int (x2)), some (.ref (x3)), some (.ref (x4)), some (.int (x5)), some (.int ((x1 * 3) + x5))]) (jv_dk t_X10_through (k := 23) rfl) (Nat.le_of_ble_eq_true rfl) rfl ?_
      refine jv_iload_n (jv_dk t_X10_through (k := 24) rfl) rfl rfl ?_
      refine jv_aload_n (jv_dk t_X10_through (k := 25) rfl) rfl rfl (Or.inr ⟨_, rfl⟩) ?_
      refine jv_iload (jv_dk t_X10_through (k := 26) rfl) rfl ?_
      refine jv_iaload (jv_dk t_X10_through (k := 27) rfl) (fun v7 => ?_)
      refine jv_icmp_lt (tgt := 78) (jv_dk t_X10_through (k := 28) rfl) rfl (fun c8 => ?_) (fun c8 => ?_)
      · refine jv_iinc (v := 1) (L' := [some (.ref (x0)), some (.int (x1)), some (.int (x2)), some (.ref (x3)), some (.ref (x4)), some (.int (x5 + 1)), some (.int ((x1 * 3) + x5))]) (jv_dk t_X10_through (k := 49) rfl) rfl (by decide) rfl ?_
        refine jv_goto (tgt := 16) (jv_dk t_X10_through (k := 50) rfl) rfl ?_
        refine jv_le_row (jv_le_s (jv_le_s (jv_le_s (jv_le_s (jv_le_s (jv_le_s (jv_le_n (jv_le_nil)))))))) ?_
        exact hR16 _ _ _ _ _ _ _ 
      · show jv_O _ _ _ _ 49 _ _ _ _
        refine jv_iload_n (jv_dk t_X10_through (k := 29) rfl) rfl rfl ?_
        refine jv_aload_n (jv_dk t_X10_through (k := 30) rfl) rfl rfl (Or.inr ⟨_, rfl⟩) ?_
        refine jv_iload (jv_dk t_X10_through (k := 31) rfl) rfl ?_
        refine jv_iaload (jv_dk t_X10_through (k := 32) rfl) (fun v9 => ?_)
        refine jv_aload_n (jv_dk t_X10_through (k := 33) rfl) rfl rfl (Or.inr ⟨_, rfl⟩) ?_
        refine jv_gR (jv_dk t_X10_through (k := 34) rfl) fl_X10_31 (fun v10 => ?_)
        refine jv_iload (jv_dk t_X10_through (k := 35) rfl) rfl ?_
        refine jv_iaload (jv_dk t_X10_through (k := 36) rfl) (fun v11 => ?_)
        refine jv_iadd (jv_dk t_X10_through (k := 37) rfl) ?_
        refine jv_icmp_ge (tgt := 78) (jv_dk t_X10_through (k := 38) rfl) rfl (fun c12 => ?_) (fun c12 => ?_)
        · refine jv_iinc (v := 1) (L' := [some (.ref (x0)), some (.int (x1)), some (.int (x2)), some (.ref (x3)), some (.ref (x4)), some (.int (x5 + 1)), some (.int ((x1 * 3) + x5))]) (jv_dk t_X10_through (k := 49) rfl) rfl (by decide) rfl ?_
          refine jv_goto (tgt := 16) (jv_dk t_X10_through (k := 50) rfl) rfl ?_
          refine jv_le_row (jv_le_s (jv_le_s (jv_le_s (jv_le_s (jv_le_s (jv_le_s (jv_le_n (jv_le_nil)))))))) ?_
          exact hR16 _ _ _ _ _ _ _ 
        · show jv_O _ _ _ _ 65 _ _ _ _
          refine jv_aload (jv_dk t_X10_through (k := 39) rfl) rfl (Or.inr ⟨_, rfl⟩) ?_
          refine jv_iload (jv_dk t_X10_through (k := 40) rfl) rfl ?_
          refine jv_iaload (jv_dk t_X10_through (k := 41) rfl) (fun v13 => ?_)
          refine jv_iload_n (jv_dk t_X10_through (k := 42) rfl) rfl rfl ?_
          refine jv_iadd (jv_dk t_X10_through (k := 43) rfl) ?_
          refine jv_aload_n (jv_dk t_X10_through (k := 44) rfl) rfl rfl (Or.inr ⟨_, rfl⟩) ?_
          refine jv_iload (jv_dk t_X10_through (k := 45) rfl) rfl ?_
          refine jv_iaload (jv_dk t_X10_through (k := 46) rfl) (fun v14 => ?_)
          refine jv_isub (jv_dk t_X10_through (k := 47) rfl) ?_
          exact jv_iret (ty := .int) (jv_dk t_X10_through (k := 48) rfl) rfl rfl rfl
def f_X10_through (a0 : Nat) (a1 : Int32) (a2 : Int32) (a3 : Nat) (a4 : Nat) (h : jh) : Option (Int32 × jh) :=
  (if a1 < 0 then
  some (65534, h)
  else
  (if a1 < 8 then
  jlp6 (f_X10_through_h16 (fun  h15 =>
  some (65534, h15))) jfu a0 a1 a2 a3 a4 0 h
  else
  some (65534, h)))
theorem P_X10_through (X : jx) (a0 : Nat) (a1 : Int32) (a2 : Int32) (a3 : Nat) (a4 : Nat) (h : jh) : jv_P X M_X10_through jeI [.ref (a0), .int (a1), .int (a2), .ref (a3), .ref (a4)] h (f_X10_through a0 a1 a2 a3 a4 h) := by
  refine jv_P.of (by decide) rfl (by simp [Value.category]) (Nat.le_of_ble_eq_true rfl) ?_
  show jv_O X M_X10_through (h.1, h.2.1) jeI 0 [some (.ref (a0)), some (.int (a1)), some (.int (a2)), some (.ref (a3)), some (.ref (a4)), none, none] [] h (f_X10_through a0 a1 a2 a3 a4 h)
  unfold f_X10_through
  refine jv_iload_n (jv_dk t_X10_through (k := 0) rfl) rfl rfl ?_
  refine jv_if_lt (tgt := 10) (jv_dk t_X10_through (k := 1) rfl) rfl (fun c1 => ?_) (fun c1 => ?_)
  · refine jv_ldc (jv_dk t_X10_through (k := 5) rfl) cn_X10_57 ?_
    exact jv_iret (ty := .int) (jv_dk t_X10_through (k := 6) rfl) rfl rfl rfl
  · show jv_O _ _ _ _ 4 _ _ _ _
    refine jv_iload_n (jv_dk t_X10_through (k := 2) rfl) rfl rfl ?_
    refine jv_bipush (v := 8) (jv_dk t_X10_through (k := 3) rfl) (by decide) ?_
    refine jv_icmp_lt (tgt := 13) (jv_dk t_X10_through (k := 4) rfl) rfl (fun c2 => ?_) (fun c2 => ?_)
    · refine jv_iconst (v := 0) (jv_dk t_X10_through (k := 7) rfl) (by decide) ?_
      refine jv_istore (L' := [some (.ref (a0)), some (.int (a1)), some (.int (a2)), some (.ref (a3)), some (.ref (a4)), some (.int (0)), none]) (jv_dk t_X10_through (k := 8) rfl) (Nat.le_of_ble_eq_true rfl) rfl ?_
      refine o_f_X10_through_h16 (fun  h15 => ?_) _ _ _ _ _ _ _ 
      show jv_O X M_X10_through _ jeI 84 [none, none, none, none, none, none, none] [] h15 _
      refine jv_ldc (jv_dk t_X10_through (k := 51) rfl) cn_X10_57 ?_
      exact jv_iret (ty := .int) (jv_dk t_X10_through (k := 52) rfl) rfl rfl rfl
    · show jv_O _ _ _ _ 10 _ _ _ _
      refine jv_ldc (jv_dk t_X10_through (k := 5) rfl) cn_X10_57 ?_
      exact jv_iret (ty := .int) (jv_dk t_X10_through (k := 6) rfl) rfl rfl rfl
def t0_X10_outward : List (Nat × Instr × Nat) := [(0, .iload_n 2, 1), (1, .istore_n 3, 1), (2, .iload_n 1, 1), (3, .istore 4, 2), (5, .iconst 0, 1), (6, .istore 5, 2), (8, .iload 5, 2), (10, .bipush 8, 2), (12, .if_icmp .ge 49, 3), (15, .aload_n 0, 1), (16, .getfield 12, 3), (19, .iload 4, 2), (21, .invokevirtual 54, 3), (24, .iconst (-1), 1), (25, .if_icmp .eq 36, 3), (28, .aload_n 0, 1), (29, .iload 4, 2), (31, .iload_n 3, 1), (32, .aload_n 0, 1), (33, .getfield 25, 3), (36, .aload_n 0, 1), (37, .getfield 28, 3), (40, .invokevirtual 50, 3), (43, .istore_n 3, 1), (44, .aload_n 0, 1), (45, .getfield 12, 3), (48, .iload 4, 2), (50, .invokevirtual 54, 3), (53, .istore 4, 2), (55, .iinc 5 1, 3), (58, .goto (-50), 3), (61, .iload_n 3, 1), (62, .ireturn, 1)]
theorem t_X10_outward : jv_dec cX10_outward t0_X10_outward = true := by decide +kernel
def M_X10_outward : jm := (yX10_outward, cX10_outward, 6, (some .int), 1, 26, [])
theorem fl_X10_12 : jv_F RX10 12 8 0 RX10 TX10 6 := ⟨rfl, by decide, inX10, Or.inl (jv_at 311 (by decide +kernel))⟩
theorem lk_X10_54 : jv_lk RX10 54 M_X9_around := Or.inr ⟨"SpaceWarden", (jv_at 703 (by decide +kernel))⟩
theorem lk_X10_50 : Cond.methodLink RX10 50 M_X10_through.1 ∈ lw_tbl := (jv_at 712 (by decide +kernel))
set_option maxRecDepth 20000 in
theorem me_X10_through : jv_me M_X10_through 4 := ⟨(jv_in3 (List.mem_of_getElem? (i := 75) rfl)), (jv_at 167 (by decide +kernel)), ⟨by decide, by decide⟩, by decide +kernel⟩
theorem mv_X10_through : jv_mv M_X10_through := ⟨(jv_at 714 (by decide +kernel)), (jv_at 37 (by decide +kernel))⟩
def f_X10_outward_h8 (K8 : Int32 → jh → Option (Int32 × jh)) (R8 : Nat → Int32 → Int32 → Int32 → jh → Option (Int32 × jh)) (x0 : Nat) (x3 : Int32) (x4 : Int32) (x5 : Int32) (h : jh) : Option (Int32 × jh) :=
  (if 8 ≤ x5 then
  K8 x3 h
  else
  gR h x0 8 0 fun v2 =>
  cV h v2 7 (f_X9_around v2 x4 h) fun v3 h4 =>
  (if v3 = (-1) then
  K8 x3 h4
  else
  gR h4 x0 8 3 fun v6 =>
  gR h4 x0 8 4 fun v7 =>
  cV h4 x0 8 (f_X10_through x0 x4 x3 v6 v7 h4) fun v8 h9 =>
  gR h9 x0 8 0 fun v10 =>
  cV h9 v10 7 (f_X9_around v10 x4 h9) fun v11 h12 =>
  R8 x0 v8 v11 (x5 + 1) h12))
theorem o_f_X10_outward_h8 {X : jx} {b0 : Nat × Nat} {K8 : Int32 → jh → Option (Int32 × jh)} (hK8 : ∀ (x3 : Int32) (h : jh), jv_O X M_X10_outward b0 jeI 61 [none, none, none, some (.int (x3)), none, none] [] h (K8 x3 h)) : ∀ (x0 : Nat) (x3 : Int32) (x4 : Int32) (x5 : Int32) (h : jh), jv_O X M_X10_outward b0 jeI 8 [some (.ref (x0)), none, none, some (.int (x3)), some (.int (x4)), some (.int (x5))] [] h (jlp4 (f_X10_outward_h8 K8) jfu x0 x3 x4 x5 h) := by
  refine jlp4_ok (P := fun x0 x3 x4 x5 h o => jv_O X M_X10_outward b0 jeI 8 [some (.ref (x0)), none, none, some (.int (x3)), some (.int (x4)), some (.int (x5))] [] h o) (fun R8 hR8 => ?_) (fun _ _ _ _ _  => jv_none rfl) jfu
  intro x0 x3 x4 x5 h
  unfold f_X10_outward_h8
  refine jv_iload (jv_dk t_X10_outward (k := 6) rfl) rfl ?_
  refine jv_bipush (v := 8) (jv_dk t_X10_outward (k := 7) rfl) (by decide) ?_
  refine jv_icmp_ge (tgt := 61) (jv_dk t_X10_outward (k := 8) rfl) rfl (fun c1 => ?_) (fun c1 => ?_)
  · refine jv_le_row (jv_le_n (jv_le_n (jv_le_n (jv_le_s (jv_le_n (jv_le_n (jv_le_nil))))))) ?_
    exact hK8 _ _ 
  · show jv_O _ _ _ _ 15 _ _ _ _
    refine jv_aload_n (jv_dk t_X10_outward (k := 9) rfl) rfl rfl (Or.inr ⟨_, rfl⟩) ?_
    refine jv_gR (jv_dk t_X10_outward (k := 10) rfl) fl_X10_12 (fun v2 => ?_)
    refine jv_iload (jv_dk t_X10_outward (k := 11) rfl) rfl ?_
    refine jv_callV (en' := jeI) (pv := jpI) (As := [.int (x4)]) (S := []) (jv_dk t_X10_outward (k := 12) rfl) (fun _ => rfl) lk_X10_54 me_X9_around mv_X9_around ⟨by decide, by decide⟩ rfl rfl rfl (Nat.le_of_ble_eq_true rfl) (P_X9_around X v2 x4 h) (fun v3 h4 => ?_)
    show jv_O X M_X10_outward _ jeI 24 [some (.ref (x0)), none, none, some (.int (x3)), some (.int (x4)), some (.int (x5))] [.int (v3)] h4 _
    refine jv_iconst (v := (-1)) (jv_dk t_X10_outward (k := 13) rfl) (by decide) ?_
    refine jv_icmp_eq (tgt := 61) (jv_dk t_X10_outward (k := 14) rfl) rfl (fun c5 => ?_) (fun c5 => ?_)
    · refine jv_le_row (jv_le_n (jv_le_n (jv_le_n (jv_le_s (jv_le_n (jv_le_n (jv_le_nil))))))) ?_
      exact hK8 _ _ 
    · show jv_O _ _ _ _ 28 _ _ _ _
      refine jv_aload_n (jv_dk t_X10_outward (k := 15) rfl) rfl rfl (Or.inr ⟨_, rfl⟩) ?_
      refine jv_iload (jv_dk t_X10_outward (k := 16) rfl) rfl ?_
      refine jv_iload_n (jv_dk t_X10_outward (k := 17) rfl) rfl rfl ?_
      refine jv_aload_n (jv_dk t_X10_outward (k := 18) rfl) rfl rfl (Or.inr ⟨_, rfl⟩) ?_
      refine jv_gR (jv_dk t_X10_outward (k := 19) rfl) fl_X10_25 (fun v6 => ?_)
      refine jv_aload_n (jv_dk t_X10_outward (k := 20) rfl) rfl rfl (Or.inr ⟨_, rfl⟩) ?_
      refine jv_gR (jv_dk t_X10_outward (k := 21) rfl) fl_X10_28 (fun v7 => ?_)
      refine jv_callV (en' := jeI) (pv := jpI) (As := [.int (x4), .int (x3), .ref (v6), .ref (v7)]) (S := []) (jv_dk t_X10_outward (k := 22) rfl) (fun _ => rfl) (Or.inl lk_X10_50) me_X10_through mv_X10_through ⟨by decide, by decide⟩ rfl rfl rfl (Nat.le_of_ble_eq_true rfl) (P_X10_through X x0 x4 x3 v6 v7 h4) (fun v8 h9 => ?_)
      show jv_O X M_X10_outward _ jeI 43 [some (.ref (x0)), none, none, some (.int (x3)), some (.int (x4)), some (.int (x5))] [.int (v8)] h9 _
      refine jv_istore_n (L' := [some (.ref (x0)), none, none, some (.int (v8)), some (.int (x4)), some (.int (x5))]) (jv_dk t_X10_outward (k := 23) rfl) rfl (Nat.le_of_ble_eq_true rfl) rfl ?_
      refine jv_aload_n (jv_dk t_X10_outward (k := 24) rfl) rfl rfl (Or.inr ⟨_, rfl⟩) ?_
      refine jv_gR (jv_dk t_X10_outward (k := 25) rfl) fl_X10_12 (fun v10 => ?_)
      refine jv_iload (jv_dk t_X10_outward (k := 26) rfl) rfl ?_
      refine jv_callV (en' := jeI) (pv := jpI) (As := [.int (x4)]) (S := []) (jv_dk t_X10_outward (k := 27) rfl) (fun _ => rfl) lk_X10_54 me_X9_around mv_X9_around ⟨by decide, by decide⟩ rfl rfl rfl (Nat.le_of_ble_eq_true rfl) (P_X9_around X v10 x4 h9) (fun v11 h12 => ?_)
      show jv_O X M_X10_outward _ jeI 53 [some (.ref (x0)), none, none, some (.int (v8)), some (.int (x4)), some (.int (x5))] [.int (v11)] h12 _
      refine jv_istore (L' := [some (.ref (x0)), none, none, some (.int (v8)), some (.int (v11)), some (.int (x5))]) (jv_dk t_X10_outward (k := 28) rfl) (Nat.le_of_ble_eq_true rfl) rfl ?_
      refine jv_iinc (v := 1) (L' := [some (.ref (x0)), none, none, some (.int (v8)), some (.int (v11)), some (.int (x5 + 1))]) (jv_dk t_X10_outward (k := 29) rfl) rfl (by decide) rfl ?_
      refine jv_goto (tgt := 8) (jv_dk t_X10_outward (k := 30) rfl) rfl ?_
      exact hR8 _ _ _ _ _ 
def f_X10_outward (a0 : Nat) (a1 : Int32) (a2 : Int32) (h : jh) : Option (Int32 × jh) :=
  jlp4 (f_X10_outward_h8 (fun y14 h13 =>
  some (y14, h13))) jfu a0 a2 a1 0 h
theorem P_X10_outward (X : jx) (a0 : Nat) (a1 : Int32) (a2 : Int32) (h : jh) : jv_P X M_X10_outward jeI [.ref (a0), .int (a1), .int (a2)] h (f_X10_outward a0 a1 a2 h) := by
  refine jv_P.of (by decide) rfl (by simp [Value.category]) (Nat.le_of_ble_eq_true rfl) ?_
  show jv_O X M_X10_outward (h.1, h.2.1) jeI 0 [some (.ref (a0)), some (.int (a1)), some (.int (a2)), none, none, none] [] h (f_X10_outward a0 a1 a2 h)
  unfold f_X10_outward
  refine jv_iload_n (jv_dk t_X10_outward (k := 0) rfl) rfl rfl ?_
  refine jv_istore_n (L' := [some (.ref (a0)), some (.int (a1)), some (.int (a2)), some (.int (a2)), none, none]) (jv_dk t_X10_outward (k := 1) rfl) rfl (Nat.le_of_ble_eq_true rfl) rfl ?_
  refine jv_iload_n (jv_dk t_X10_outward (k := 2) rfl) rfl rfl ?_
  refine jv_istore (L' := [some (.ref (a0)), some (.int (a1)), some (.int (a2)), some (.int (a2)), some (.int (a1)), none]) (jv_dk t_X10_outward (k := 3) rfl) (Nat.le_of_ble_eq_true rfl) rfl ?_
  refine jv_iconst (v := 0) (jv_dk t_X10_outward (k := 4) rfl) (by decide) ?_
  refine jv_istore (L' := [some (.ref (a0)), some (.int (a1)), some (.int (a2)), some (.int (a2)), some (.int (a1)), some (.int (0))]) (jv_dk t_X10_outward (k := 5) rfl) (Nat.le_of_ble_eq_true rfl) rfl ?_
  refine jv_le_row (jv_le_s (jv_le_n (jv_le_n (jv_le_s (jv_le_s (jv_le_s (jv_le_nil))))))) ?_
  refine o_f_X10_outward_h8 (fun y14 h13 => ?_) _ _ _ _ _ 
  show jv_O X M_X10_outward _ jeI 61 [none, none, none, some (.int (y14)), none, none] [] h13 _
  refine jv_iload_n (jv_dk t_X10_outward (k := 31) rfl) rfl rfl ?_
  exact jv_iret (ty := .int) (jv_dk t_X10_outward (k := 32) rfl) rfl rfl rfl
def t0_X10_isKnown : List (Nat × Instr × Nat) := [(0, .iload_n 2, 1), (1, .istore 4, 2), (3, .iload 4, 2), (5, .iload_n 2, 1), (6, .iload_n 3, 1), (7, .iadd, 1), (8, .if_icmp .ge 30, 3), (11, .iload 4, 2), (13, .bipush 100, 2), (15, .if_icmp .ge 23, 3), (18, .aload_n 0, 1), (19, .iload_n 1, 1), (20, .iload 4, 2), (22, .invokevirtual 73, 3), (25, .ldc 57, 2), (27, .if_icmp .ne 5, 3), (30, .iconst 0, 1), (31, .ireturn, 1), (32, .iinc 4 1, 3), (35, .goto (-32), 3), (38, .iconst 1, 1), (39, .ireturn, 1)]
theorem t_X10_isKnown : jv_dec cX10_isKnown t0_X10_isKnown = true := by decide +kernel
def M_X10_isKnown : jm := (yX10_isKnown, cX10_isKnown, 5, (some .boolean), 2, 51, [])
theorem lk_X10_73 : Cond.methodLink RX10 73 M_X10_outward.1 ∈ lw_tbl := (jv_at 708 (by decide +kernel))
set_option maxRecDepth 20000 in
theorem me_X10_outward : jv_me M_X10_outward 2 := ⟨(jv_in3 (List.mem_of_getElem? (i := 71) rfl)), (jv_at 167 (by decide +kernel)), ⟨by decide, by decide⟩, by decide +kernel⟩
theorem mv_X10_outward : jv_mv M_X10_outward := ⟨(jv_at 710 (by decide +kernel)), (jv_at 36 (by decide +kernel))⟩
def f_X10_isKnown_h3 (K3 : jh → Option (Int32 × jh)) (R3 : Nat → Int32 → Int32 → Int32 → Int32 → jh → Option (Int32 × jh)) (x0 : Nat) (x1 : Int32) (x2 : Int32) (x3 : Int32) (x4 : Int32) (h : jh) : Option (Int32 × jh) :=
  (if (x2 + x3) ≤ x4 then
  K3  h
  else
  (if 100 ≤ x4 then
  K3  h
  else
  cV h x0 8 (f_X10_outward x0 x1 x4 h) fun v3 h4 =>
  (if ¬ v3 = 65534 then
  R3 x0 x1 x2 x3 (x4 + 1) h4
  else
  some (0, h4))))
theorem o_f_X10_isKnown_h3 {X : jx} {b0 : Nat × Nat} {K3 : jh → Option (Int32 × jh)} (hK3 : ∀  (h : jh), jv_O X M_X10_isKnown b0 jeI 38 [none, none, none, none, none] [] h (K3  h)) : ∀ (x0 : Nat) (x1 : Int32) (x2 : Int32) (x3 : Int32) (x4 : Int32) (h : jh), jv_O X M_X10_isKnown b0 jeI 3 [some (.ref (x0)), some (.int (x1)), some (.int (x2)), some (.int (x3)), some (.int (x4))] [] h (jlp5 (f_X10_isKnown_h3 K3) jfu x0 x1 x2 x3 x4 h) := by
  refine jlp5_ok (P := fun x0 x1 x2 x3 x4 h o => jv_O X M_X10_isKnown b0 jeI 3 [some (.ref (x0)), some (.int (x1)), some (.int (x2)), some (.int (x3)), some (.int (x4))] [] h o) (fun R3 hR3 => ?_) (fun _ _ _ _ _ _  => jv_none rfl) jfu
  intro x0 x1 x2 x3 x4 h
  unfold f_X10_isKnown_h3
  refine jv_iload (jv_dk t_X10_isKnown (k := 2) rfl) rfl ?_
  refine jv_iload_n (jv_dk t_X10_isKnown (k := 3) rfl) rfl rfl ?_
  refine jv_iload_n (jv_dk t_X10_isKnown (k := 4) rfl) rfl rfl ?_
  refine jv_iadd (jv_dk t_X10_isKnown (k := 5) rfl) ?_
  refine jv_icmp_ge (tgt := 38) (jv_dk t_X10_isKnown (k := 6) rfl) rfl (fun c1 => ?_) (fun c1 => ?_)
  · refine jv_le_row (jv_le_n (jv_le_n (jv_le_n (jv_le_n (jv_le_n (jv_le_nil)))))) ?_
    exact hK3 _ 
  · show jv_O _ _ _ _ 11 _ _ _ _
    refine jv_iload (jv_dk t_X10_isKnown (k := 7) rfl) rfl ?_
    refine jv_bipush (v := 100) (jv_dk t_X10_isKnown (k := 8) rfl) (by decide) ?_
    refine jv_icmp_ge (tgt := 38) (jv_dk t_X10_isKnown (k := 9) rfl) rfl (fun c2 => ?_) (fun c2 => ?_)
    · refine jv_le_row (jv_le_n (jv_le_n (jv_le_n (jv_le_n (jv_le_n (jv_le_nil)))))) ?_
      exact hK3 _ 
    · show jv_O _ _ _ _ 18 _ _ _ _
      refine jv_aload_n (jv_dk t_X10_isKnown (k := 10) rfl) rfl rfl (Or.inr ⟨_, rfl⟩) ?_
      refine jv_iload_n (jv_dk t_X10_isKnown (k := 11) rfl) rfl rfl ?_
      refine jv_iload (jv_dk t_X10_isKnown (k := 12) rfl) rfl ?_
      refine jv_callV (en' := jeI) (pv := jpI) (As := [.int (x1), .int (x4)]) (S := []) (jv_dk t_X10_isKnown (k := 13) rfl) (fun _ => rfl) (Or.inl lk_X10_73) me_X10_outward mv_X10_outward ⟨by decide, by decide⟩ rfl rfl rfl (Nat.le_of_ble_eq_true rfl) (P_X10_outward X x0 x1 x4 h) (fun v3 h4 => ?_)
      show jv_O X M_X10_isKnown _ jeI 25 [some (.ref (x0)), some (.int (x1)), some (.int (x2)), some (.int (x3)), some (.int (x4))] [.int (v3)] h4 _
      refine jv_ldc (jv_dk t_X10_isKnown (k := 14) rfl) cn_X10_57 ?_
      refine jv_icmp_ne (tgt := 32) (jv_dk t_X10_isKnown (k := 15) rfl) rfl (fun c5 => ?_) (fun c5 => ?_)
      · refine jv_iinc (v := 1) (L' := [some (.ref (x0)), some (.int (x1)), some (.int (x2)), some (.int (x3)), some (.int (x4 + 1))]) (jv_dk t_X10_isKnown (k := 18) rfl) rfl (by decide) rfl ?_
        refine jv_goto (tgt := 3) (jv_dk t_X10_isKnown (k := 19) rfl) rfl ?_
        exact hR3 _ _ _ _ _ _ 
      · show jv_O _ _ _ _ 30 _ _ _ _
        refine jv_iconst (v := 0) (jv_dk t_X10_isKnown (k := 16) rfl) (by decide) ?_
        exact jv_iret (ty := .boolean) (jv_dk t_X10_isKnown (k := 17) rfl) rfl rfl rfl
def f_X10_isKnown (a0 : Nat) (a1 : Int32) (a2 : Int32) (a3 : Int32) (h : jh) : Option (Int32 × jh) :=
  jlp5 (f_X10_isKnown_h3 (fun  h6 =>
  some (1, h6))) jfu a0 a1 a2 a3 a2 h
theorem P_X10_isKnown (X : jx) (a0 : Nat) (a1 : Int32) (a2 : Int32) (a3 : Int32) (h : jh) : jv_P X M_X10_isKnown jeI [.ref (a0), .int (a1), .int (a2), .int (a3)] h (f_X10_isKnown a0 a1 a2 a3 h) := by
  refine jv_P.of (by decide) rfl (by simp [Value.category]) (Nat.le_of_ble_eq_true rfl) ?_
  show jv_O X M_X10_isKnown (h.1, h.2.1) jeI 0 [some (.ref (a0)), some (.int (a1)), some (.int (a2)), some (.int (a3)), none] [] h (f_X10_isKnown a0 a1 a2 a3 h)
  unfold f_X10_isKnown
  refine jv_iload_n (jv_dk t_X10_isKnown (k := 0) rfl) rfl rfl ?_
  refine jv_istore (L' := [some (.ref (a0)), some (.int (a1)), some (.int (a2)), some (.int (a3)), some (.int (a2))]) (jv_dk t_X10_isKnown (k := 1) rfl) (Nat.le_of_ble_eq_true rfl) rfl ?_
  refine o_f_X10_isKnown_h3 (fun  h6 => ?_) _ _ _ _ _ _ 
  show jv_O X M_X10_isKnown _ jeI 38 [none, none, none, none, none] [] h6 _
  refine jv_iconst (v := 1) (jv_dk t_X10_isKnown (k := 20) rfl) (by decide) ?_
  exact jv_iret (ty := .boolean) (jv_dk t_X10_isKnown (k := 21) rfl) rfl rfl rfl
def t0_X10_canTake : List (Nat × Instr × Nat) := [(0, .iload_n 2, 1), (1, .invokestatic 58, 3), (4, .ifCond .eq 45, 3), (7, .iload_n 3, 1), (8, .invokestatic 58, 3), (11, .ifCond .eq 38, 3), (14, .iload 4, 2), (16, .iconst 1, 1), (17, .if_icmp .lt 32, 3), (20, .iload 4, 2), (22, .bipush 100, 2), (24, .if_icmp .ge 25, 3), (27, .iload_n 2, 1), (28, .iload 4, 2), (30, .iadd, 1), (31, .bipush 100, 2), (33, .if_icmp .gt 16, 3), (36, .iload_n 3, 1), (37, .iload 4, 2), (39, .iadd, 1), (40, .bipush 100, 2), (42, .if_icmp .gt 7, 3), (45, .iconst 1, 1), (46, .goto 4, 3), (49, .iconst 0, 1), (50, .istore 5, 2), (52, .iload 5, 2), (54, .ifCond .eq 62, 3), (57, .aload_n 0, 1), (58, .getfield 12, 3), (61, .iload_n 1, 1), (62, .invokevirtual 62, 3), (65, .ifCond .eq 51, 3), (68, .iload_n 1, 1), (69, .ifCond .eq 47, 3), (72, .aload_n 0, 1), (73, .getfield 22, 3), (76, .iload_n 1, 1), (77, .iaload, 1), (78, .iconst 3, 1), (79, .if_icmp .ge 37, 3), (82, .aload_n 0, 1), (83, .iload_n 1, 1), (84, .iload_n 2, 1), (85, .iload_n 3, 1), (86, .iload 4, 2), (88, .invokevirtual 65, 3), (91, .ifCond .eq 25, 3), (94, .aload_n 0, 1), (95, .aload_n 0, 1), (96, .getfield 12, 3), (99, .iload_n 1, 1), (100, .invokevirtual 54, 3), (103, .iload_n 3, 1), (104, .iload 4, 2), (106, .invokevirtual 69, 3), (109, .ifCond .eq 7, 3), (112, .iconst 1, 1), (113, .goto 4, 3), (116, .iconst 0, 1), (117, .ireturn, 1)]
theorem t_X10_canTake : jv_dec cX10_canTake t0_X10_canTake = true := by decide +kernel
def M_X10_canTake : jm := (yX10_canTake, cX10_canTake, 6, (some .boolean), 3, 75, [])
theorem lk_X10_58 : jv_lk RX10 58 M_X12_isId := Or.inr ⟨"SpaceWarden", (jv_at 695 (by decide +kernel))⟩
set_option maxRecDepth 20000 in
theorem me_X12_isId : jv_me M_X12_isId 1 := ⟨(jv_in3 (List.mem_of_getElem? (i := 57) rfl)), (jv_at 161 (by decide +kernel)), ⟨by decide, by decide⟩, by decide +kernel⟩
theorem lk_X10_62 : jv_lk RX10 62 M_X9_has := Or.inr ⟨"SpaceWarden", (jv_at 698 (by decide +kernel))⟩
theorem lk_X10_65 : Cond.methodLink RX10 65 M_X10_isApart.1 ∈ lw_tbl := (jv_at 699 (by decide +kernel))
set_option maxRecDepth 20000 in
theorem me_X10_isApart : jv_me M_X10_isApart 4 := ⟨(jv_in3 (List.mem_of_getElem? (i := 62) rfl)), (jv_at 167 (by decide +kernel)), ⟨by decide, by decide⟩, by decide +kernel⟩
theorem lk_X10_69 : Cond.methodLink RX10 69 M_X10_isKnown.1 ∈ lw_tbl := (jv_at 704 (by decide +kernel))
set_option maxRecDepth 20000 in
theorem me_X10_isKnown : jv_me M_X10_isKnown 3 := ⟨(jv_in3 (List.mem_of_getElem? (i := 67) rfl)), (jv_at 167 (by decide +kernel)), ⟨by decide, by decide⟩, by decide +kernel⟩
theorem mv_X10_isKnown : jv_mv M_X10_isKnown := ⟨(jv_at 706 (by decide +kernel)), (jv_at 35 (by decide +kernel))⟩
theorem mv_X10_isApart : jv_mv M_X10_isApart := ⟨(jv_at 701 (by decide +kernel)), (jv_at 34 (by decide +kernel))⟩
theorem ms_X12_isId : jv_ms M_X12_isId := (jv_at 696 (by decide +kernel))
def f_X10_canTake_b50 (x0 : Nat) (x1 : Int32) (x2 : Int32) (x3 : Int32) (x4 : Int32) (s0 : Int32) (h : jh) : Option (Int32 × jh) :=
  (if s0 = 0 then
  some (0, h)
  else
  gR h x0 8 0 fun v5 =>
  cV h v5 7 (f_X9_has v5 x1 h) fun v6 h7 =>
  (if v6 = 0 then
  some (0, h7)
  else
  (if x1 = 0 then
  some (0, h7)
  else
  gR h7 x0 8 2 fun v10 =>
  aI h7 v10 x1 fun v11 =>
  (if 3 ≤ v11 then
  some (0, h7)
  else
  cV h7 x0 8 (f_X10_isApart x0 x1 x2 x3 x4 h7) fun v13 h14 =>
  (if v13 = 0 then
  some (0, h14)
  else
  gR h14 x0 8 0 fun v16 =>
  cV h14 v16 7 (f_X9_around v16 x1 h14) fun v17 h18 =>
  cV h18 x0 8 (f_X10_isKnown x0 v17 x3 x4 h18) fun v19 h20 =>
  (if v19 = 0 then
  some (0, h20)
  else
  some (1, h20)))))))
theorem o_f_X10_canTake_b50 {X : jx} {b0 : Nat × Nat} (x0 : Nat) (x1 : Int32) (x2 : Int32) (x3 : Int32) (x4 : Int32) (s0 : Int32) (h : jh) : jv_O X M_X10_canTake b0 jeI 50 [some (.ref (x0)), some (.int (x1)), some (.int (x2)), some (.int (x3)), some (.int (x4)), none] [.int (s0)] h (f_X10_canTake_b50 x0 x1 x2 x3 x4 s0 h) := by
  unfold f_X10_canTake_b50
  refine jv_istore (L' := [some (.ref (x0)), some (.int (x1)), some (.int (x2)), some (.int (x3)), some (.int (x4)), some (.int (s0))]) (jv_dk t_X10_canTake (k := 25) rfl) (Nat.le_of_ble_eq_true rfl) rfl ?_
  refine jv_iload (jv_dk t_X10_canTake (k := 26) rfl) rfl ?_
  refine jv_if_eq (tgt := 116) (jv_dk t_X10_canTake (k := 27) rfl) rfl (fun c4 => ?_) (fun c4 => ?_)
  · refine jv_iconst (v := 0) (jv_dk t_X10_canTake (k := 59) rfl) (by decide) ?_
    exact jv_iret (ty := .boolean) (jv_dk t_X10_canTake (k := 60) rfl) rfl rfl rfl
  · show jv_O _ _ _ _ 57 _ _ _ _
    refine jv_aload_n (jv_dk t_X10_canTake (k := 28) rfl) rfl rfl (Or.inr ⟨_, rfl⟩) ?_
    refine jv_gR (jv_dk t_X10_canTake (k := 29) rfl) fl_X10_12 (fun v5 => ?_)
    refine jv_iload_n (jv_dk t_X10_canTake (k := 30) rfl) rfl rfl ?_
    refine jv_callV (en' := jeI) (pv := jpI) (As := [.int (x1)]) (S := []) (jv_dk t_X10_canTake (k := 31) rfl) (fun _ => rfl) lk_X10_62 me_X9_has mv_X9_has ⟨by decide, by decide⟩ rfl rfl rfl (Nat.le_of_ble_eq_true rfl) (P_X9_has X v5 x1 h) (fun v6 h7 => ?_)
    show jv_O X M_X10_canTake _ jeI 65 [some (.ref (x0)), some (.int (x1)), some (.int (x2)), some (.int (x3)), some (.int (x4)), some (.int (s0))] [.int (v6)] h7 _
    refine jv_if_eq (tgt := 116) (jv_dk t_X10_canTake (k := 32) rfl) rfl (fun c8 => ?_) (fun c8 => ?_)
    · refine jv_iconst (v := 0) (jv_dk t_X10_canTake (k := 59) rfl) (by decide) ?_
      exact jv_iret (ty := .boolean) (jv_dk t_X10_canTake (k := 60) rfl) rfl rfl rfl
    · show jv_O _ _ _ _ 68 _ _ _ _
      refine jv_iload_n (jv_dk t_X10_canTake (k := 33) rfl) rfl rfl ?_
      refine jv_if_eq (tgt := 116) (jv_dk t_X10_canTake (k := 34) rfl) rfl (fun c9 => ?_) (fun c9 => ?_)
      · refine jv_iconst (v := 0) (jv_dk t_X10_canTake (k := 59) rfl) (by decide) ?_
        exact jv_iret (ty := .boolean) (jv_dk t_X10_canTake (k := 60) rfl) rfl rfl rfl
      · show jv_O _ _ _ _ 72 _ _ _ _
        refine jv_aload_n (jv_dk t_X10_canTake (k := 35) rfl) rfl rfl (Or.inr ⟨_, rfl⟩) ?_
        refine jv_gR (jv_dk t_X10_canTake (k := 36) rfl) fl_X10_22 (fun v10 => ?_)
        refine jv_iload_n (jv_dk t_X10_canTake (k := 37) rfl) rfl rfl ?_
        refine jv_iaload (jv_dk t_X10_canTake (k := 38) rfl) (fun v11 => ?_)
        refine jv_iconst (v := 3) (jv_dk t_X10_canTake (k := 39) rfl) (by decide) ?_
        refine jv_icmp_ge (tgt := 116) (jv_dk t_X10_canTake (k := 40) rfl) rfl (fun c12 => ?_) (fun c12 => ?_)
        · refine jv_iconst (v := 0) (jv_dk t_X10_canTake (k := 59) rfl) (by decide) ?_
          exact jv_iret (ty := .boolean) (jv_dk t_X10_canTake (k := 60) rfl) rfl rfl rfl
        · show jv_O _ _ _ _ 82 _ _ _ _
          refine jv_aload_n (jv_dk t_X10_canTake (k := 41) rfl) rfl rfl (Or.inr ⟨_, rfl⟩) ?_
          refine jv_iload_n (jv_dk t_X10_canTake (k := 42) rfl) rfl rfl ?_
          refine jv_iload_n (jv_dk t_X10_canTake (k := 43) rfl) rfl rfl ?_
          refine jv_iload_n (jv_dk t_X10_canTake (k := 44) rfl) rfl rfl ?_
          refine jv_iload (jv_dk t_X10_canTake (k := 45) rfl) rfl ?_
          refine jv_callV (en' := jeI) (pv := jpI) (As := [.int (x1), .int (x2), .int (x3), .int (x4)]) (S := []) (jv_dk t_X10_canTake (k := 46) rfl) (fun _ => rfl) (Or.inl lk_X10_65) me_X10_isApart mv_X10_isApart ⟨by decide, by decide⟩ rfl rfl rfl (Nat.le_of_ble_eq_true rfl) (P_X10_isApart X x0 x1 x2 x3 x4 h7) (fun v13 h14 => ?_)
          show jv_O X M_X10_canTake _ jeI 91 [some (.ref (x0)), some (.int (x1)), some (.int (x2)), some (.int (x3)), some (.int (x4)), some (.int (s0))] [.int (v13)] h14 _
          refine jv_if_eq (tgt := 116) (jv_dk t_X10_canTake (k := 47) rfl) rfl (fun c15 => ?_) (fun c15 => ?_)
          · refine jv_iconst (v := 0) (jv_dk t_X10_canTake (k := 59) rfl) (by decide) ?_
            exact jv_iret (ty := .boolean) (jv_dk t_X10_canTake (k := 60) rfl) rfl rfl rfl
          · show jv_O _ _ _ _ 94 _ _ _ _
            refine jv_aload_n (jv_dk t_X10_canTake (k := 48) rfl) rfl rfl (Or.inr ⟨_, rfl⟩) ?_
            refine jv_aload_n (jv_dk t_X10_canTake (k := 49) rfl) rfl rfl (Or.inr ⟨_, rfl⟩) ?_
            refine jv_gR (jv_dk t_X10_canTake (k := 50) rfl) fl_X10_12 (fun v16 => ?_)
            refine jv_iload_n (jv_dk t_X10_canTake (k := 51) rfl) rfl rfl ?_
            refine jv_callV (en' := jeI) (pv := jpI) (As := [.int (x1)]) (S := [.ref (x0)]) (jv_dk t_X10_canTake (k := 52) rfl) (fun _ => rfl) lk_X10_54 me_X9_around mv_X9_around ⟨by decide, by decide⟩ rfl rfl rfl (Nat.le_of_ble_eq_true rfl) (P_X9_around X v16 x1 h14) (fun v17 h18 => ?_)
            show jv_O X M_X10_canTake _ jeI 103 [some (.ref (x0)), some (.int (x1)), some (.int (x2)), some (.int (x3)), some (.int (x4)), some (.int (s0))] [.int (v17), .ref (x0)] h18 _
            refine jv_iload_n (jv_dk t_X10_canTake (k := 53) rfl) rfl rfl ?_
            refine jv_iload (jv_dk t_X10_canTake (k := 54) rfl) rfl ?_
            refine jv_callV (en' := jeI) (pv := jpI) (As := [.int (v17), .int (x3), .int (x4)]) (S := []) (jv_dk t_X10_canTake (k := 55) rfl) (fun _ => rfl) (Or.inl lk_X10_69) me_X10_isKnown mv_X10_isKnown ⟨by decide, by decide⟩ rfl rfl rfl (Nat.le_of_ble_eq_true rfl) (P_X10_isKnown X x0 v17 x3 x4 h18) (fun v19 h20 => ?_)
            show jv_O X M_X10_canTake _ jeI 109 [some (.ref (x0)), some (.int (x1)), some (.int (x2)), some (.int (x3)), some (.int (x4)), some (.int (s0))] [.int (v19)] h20 _
            refine jv_if_eq (tgt := 116) (jv_dk t_X10_canTake (k := 56) rfl) rfl (fun c21 => ?_) (fun c21 => ?_)
            · refine jv_iconst (v := 0) (jv_dk t_X10_canTake (k := 59) rfl) (by decide) ?_
              exact jv_iret (ty := .boolean) (jv_dk t_X10_canTake (k := 60) rfl) rfl rfl rfl
            · show jv_O _ _ _ _ 112 _ _ _ _
              refine jv_iconst (v := 1) (jv_dk t_X10_canTake (k := 57) rfl) (by decide) ?_
              refine jv_goto (tgt := 117) (jv_dk t_X10_canTake (k := 58) rfl) rfl ?_
              exact jv_iret (ty := .boolean) (jv_dk t_X10_canTake (k := 60) rfl) rfl rfl rfl
def f_X10_canTake (a0 : Nat) (a1 : Int32) (a2 : Int32) (a3 : Int32) (a4 : Int32) (h : jh) : Option (Int32 × jh) :=
  bd (f_X12_isId a2 h) fun v1 h2 =>
  (if v1 = 0 then
  f_X10_canTake_b50 a0 a1 a2 a3 a4 0 h2
  else
  bd (f_X12_isId a3 h2) fun v22 h23 =>
  (if v22 = 0 then
  f_X10_canTake_b50 a0 a1 a2 a3 a4 0 h23
  else
  (if a4 < 1 then
  f_X10_canTake_b50 a0 a1 a2 a3 a4 0 h23
  else
  (if 100 ≤ a4 then
  f_X10_canTake_b50 a0 a1 a2 a3 a4 0 h23
  else
  (if 100 < (a2 + a4) then
  f_X10_canTake_b50 a0 a1 a2 a3 a4 0 h23
  else
  (if 100 < (a3 + a4) then
  f_X10_canTake_b50 a0 a1 a2 a3 a4 0 h23
  else
  f_X10_canTake_b50 a0 a1 a2 a3 a4 1 h23))))))
theorem P_X10_canTake (X : jx) (a0 : Nat) (a1 : Int32) (a2 : Int32) (a3 : Int32) (a4 : Int32) (h : jh) : jv_P X M_X10_canTake jeI [.ref (a0), .int (a1), .int (a2), .int (a3), .int (a4)] h (f_X10_canTake a0 a1 a2 a3 a4 h) := by
  refine jv_P.of (by decide) rfl (by simp [Value.category]) (Nat.le_of_ble_eq_true rfl) ?_
  show jv_O X M_X10_canTake (h.1, h.2.1) jeI 0 [some (.ref (a0)), some (.int (a1)), some (.int (a2)), some (.int (a3)), some (.int (a4)), none] [] h (f_X10_canTake a0 a1 a2 a3 a4 h)
  unfold f_X10_canTake
  refine jv_iload_n (jv_dk t_X10_canTake (k := 0) rfl) rfl rfl ?_
  refine jv_callS (en' := jeI) (pv := jpI) (As := [.int (a2)]) (S := []) (jv_dk t_X10_canTake (k := 1) rfl) (fun _ => rfl) lk_X10_58 me_X12_isId ms_X12_isId ⟨by decide, by decide⟩ rfl rfl (Nat.le_of_ble_eq_true rfl) (P_X12_isId X a2 h) (fun v1 h2 => ?_)
  show jv_O X M_X10_canTake _ jeI 4 [some (.ref (a0)), some (.int (a1)), some (.int (a2)), some (.int (a3)), some (.int (a4)), none] [.int (v1)] h2 _
  refine jv_if_eq (tgt := 49) (jv_dk t_X10_canTake (k := 2) rfl) rfl (fun c3 => ?_) (fun c3 => ?_)
  · refine jv_iconst (v := 0) (jv_dk t_X10_canTake (k := 24) rfl) (by decide) ?_
    exact o_f_X10_canTake_b50 _ _ _ _ _ _ _ 
  · show jv_O _ _ _ _ 7 _ _ _ _
    refine jv_iload_n (jv_dk t_X10_canTake (k := 3) rfl) rfl rfl ?_
    refine jv_callS (en' := jeI) (pv := jpI) (As := [.int (a3)]) (S := []) (jv_dk t_X10_canTake (k := 4) rfl) (fun _ => rfl) lk_X10_58 me_X12_isId ms_X12_isId ⟨by decide, by decide⟩ rfl rfl (Nat.le_of_ble_eq_true rfl) (P_X12_isId X a3 h2) (fun v22 h23 => ?_)
    show jv_O X M_X10_canTake _ jeI 11 [some (.ref (a0)), some (.int (a1)), some (.int (a2)), some (.int (a3)), some (.int (a4)), none] [.int (v22)] h23 _
    refine jv_if_eq (tgt := 49) (jv_dk t_X10_canTake (k := 5) rfl) rfl (fun c24 => ?_) (fun c24 => ?_)
    · refine jv_iconst (v := 0) (jv_dk t_X10_canTake (k := 24) rfl) (by decide) ?_
      exact o_f_X10_canTake_b50 _ _ _ _ _ _ _ 
    · show jv_O _ _ _ _ 14 _ _ _ _
      refine jv_iload (jv_dk t_X10_canTake (k := 6) rfl) rfl ?_
      refine jv_iconst (v := 1) (jv_dk t_X10_canTake (k := 7) rfl) (by decide) ?_
      refine jv_icmp_lt (tgt := 49) (jv_dk t_X10_canTake (k := 8) rfl) rfl (fun c25 => ?_) (fun c25 => ?_)
      · refine jv_iconst (v := 0) (jv_dk t_X10_canTake (k := 24) rfl) (by decide) ?_
        exact o_f_X10_canTake_b50 _ _ _ _ _ _ _ 
      · show jv_O _ _ _ _ 20 _ _ _ _
        refine jv_iload (jv_dk t_X10_canTake (k := 9) rfl) rfl ?_
        refine jv_bipush (v := 100) (jv_dk t_X10_canTake (k := 10) rfl) (by decide) ?_
        refine jv_icmp_ge (tgt := 49) (jv_dk t_X10_canTake (k := 11) rfl) rfl (fun c26 => ?_) (fun c26 => ?_)
        · refine jv_iconst (v := 0) (jv_dk t_X10_canTake (k := 24) rfl) (by decide) ?_
          exact o_f_X10_canTake_b50 _ _ _ _ _ _ _ 
        · show jv_O _ _ _ _ 27 _ _ _ _
          refine jv_iload_n (jv_dk t_X10_canTake (k := 12) rfl) rfl rfl ?_
          refine jv_iload (jv_dk t_X10_canTake (k := 13) rfl) rfl ?_
          refine jv_iadd (jv_dk t_X10_canTake (k := 14) rfl) ?_
          refine jv_bipush (v := 100) (jv_dk t_X10_canTake (k := 15) rfl) (by decide) ?_
          refine jv_icmp_gt (tgt := 49) (jv_dk t_X10_canTake (k := 16) rfl) rfl (fun c27 => ?_) (fun c27 => ?_)
          · refine jv_iconst (v := 0) (jv_dk t_X10_canTake (k := 24) rfl) (by decide) ?_
            exact o_f_X10_canTake_b50 _ _ _ _ _ _ _ 
          · show jv_O _ _ _ _ 36 _ _ _ _
            refine jv_iload_n (jv_dk t_X10_canTake (k := 17) rfl) rfl rfl ?_
            refine jv_iload (jv_dk t_X10_canTake (k := 18) rfl) rfl ?_
            refine jv_iadd (jv_dk t_X10_canTake (k := 19) rfl) ?_
            refine jv_bipush (v := 100) (jv_dk t_X10_canTake (k := 20) rfl) (by decide) ?_
            refine jv_icmp_gt (tgt := 49) (jv_dk t_X10_canTake (k := 21) rfl) rfl (fun c28 => ?_) (fun c28 => ?_)
            · refine jv_iconst (v := 0) (jv_dk t_X10_canTake (k := 24) rfl) (by decide) ?_
              exact o_f_X10_canTake_b50 _ _ _ _ _ _ _ 
            · show jv_O _ _ _ _ 45 _ _ _ _
              refine jv_iconst (v := 1) (jv_dk t_X10_canTake (k := 22) rfl) (by decide) ?_
              refine jv_goto (tgt := 50) (jv_dk t_X10_canTake (k := 23) rfl) rfl ?_
              exact o_f_X10_canTake_b50 _ _ _ _ _ _ _ 
def t0_X9_ancestor : List (Nat × Instr × Nat) := [(0, .iload_n 1, 1), (1, .istore_n 3, 1), (2, .iconst 0, 1), (3, .istore 4, 2), (5, .iload 4, 2), (7, .iload_n 2, 1), (8, .if_icmp .ge 22, 3), (11, .iload 4, 2), (13, .bipush 8, 2), (15, .if_icmp .ge 15, 3), (18, .aload_n 0, 1), (19, .iload_n 3, 1), (20, .invokevirtual 23, 3), (23, .istore_n 3, 1), (24, .iinc 4 1, 3), (27, .goto (-22), 3), (30, .iload_n 3, 1), (31, .ireturn, 1)]
theorem t_X9_ancestor : jv_dec cX9_ancestor t0_X9_ancestor = true := by decide +kernel
def M_X9_ancestor : jm := (yX9_ancestor, cX9_ancestor, 5, (some .int), 1, 21, [])
def f_X9_ancestor_h5 (K5 : Int32 → jh → Option (Int32 × jh)) (R5 : Nat → Int32 → Int32 → Int32 → jh → Option (Int32 × jh)) (x0 : Nat) (x2 : Int32) (x3 : Int32) (x4 : Int32) (h : jh) : Option (Int32 × jh) :=
  (if x2 ≤ x4 then
  K5 x3 h
  else
  (if 8 ≤ x4 then
  K5 x3 h
  else
  cV h x0 7 (f_X9_around x0 x3 h) fun v3 h4 =>
  R5 x0 x2 v3 (x4 + 1) h4))
theorem o_f_X9_ancestor_h5 {X : jx} {b0 : Nat × Nat} {K5 : Int32 → jh → Option (Int32 × jh)} (hK5 : ∀ (x3 : Int32) (h : jh), jv_O X M_X9_ancestor b0 jeI 30 [none, none, none, some (.int (x3)), none] [] h (K5 x3 h)) : ∀ (x0 : Nat) (x2 : Int32) (x3 : Int32) (x4 : Int32) (h : jh), jv_O X M_X9_ancestor b0 jeI 5 [some (.ref (x0)), none, some (.int (x2)), some (.int (x3)), some (.int (x4))] [] h (jlp4 (f_X9_ancestor_h5 K5) jfu x0 x2 x3 x4 h) := by
  refine jlp4_ok (P := fun x0 x2 x3 x4 h o => jv_O X M_X9_ancestor b0 jeI 5 [some (.ref (x0)), none, some (.int (x2)), some (.int (x3)), some (.int (x4))] [] h o) (fun R5 hR5 => ?_) (fun _ _ _ _ _  => jv_none rfl) jfu
  intro x0 x2 x3 x4 h
  unfold f_X9_ancestor_h5
  refine jv_iload (jv_dk t_X9_ancestor (k := 4) rfl) rfl ?_
  refine jv_iload_n (jv_dk t_X9_ancestor (k := 5) rfl) rfl rfl ?_
  refine jv_icmp_ge (tgt := 30) (jv_dk t_X9_ancestor (k := 6) rfl) rfl (fun c1 => ?_) (fun c1 => ?_)
  · refine jv_le_row (jv_le_n (jv_le_n (jv_le_n (jv_le_s (jv_le_n (jv_le_nil)))))) ?_
    exact hK5 _ _ 
  · show jv_O _ _ _ _ 11 _ _ _ _
    refine jv_iload (jv_dk t_X9_ancestor (k := 7) rfl) rfl ?_
    refine jv_bipush (v := 8) (jv_dk t_X9_ancestor (k := 8) rfl) (by decide) ?_
    refine jv_icmp_ge (tgt := 30) (jv_dk t_X9_ancestor (k := 9) rfl) rfl (fun c2 => ?_) (fun c2 => ?_)
    · refine jv_le_row (jv_le_n (jv_le_n (jv_le_n (jv_le_s (jv_le_n (jv_le_nil)))))) ?_
      exact hK5 _ _ 
    · show jv_O _ _ _ _ 18 _ _ _ _
      refine jv_aload_n (jv_dk t_X9_ancestor (k := 10) rfl) rfl rfl (Or.inr ⟨_, rfl⟩) ?_
      refine jv_iload_n (jv_dk t_X9_ancestor (k := 11) rfl) rfl rfl ?_
      refine jv_callV (en' := jeI) (pv := jpI) (As := [.int (x3)]) (S := []) (jv_dk t_X9_ancestor (k := 12) rfl) (fun _ => rfl) (Or.inl lk_X9_23) me_X9_around mv_X9_around ⟨by decide, by decide⟩ rfl rfl rfl (Nat.le_of_ble_eq_true rfl) (P_X9_around X x0 x3 h) (fun v3 h4 => ?_)
      show jv_O X M_X9_ancestor _ jeI 23 [some (.ref (x0)), none, some (.int (x2)), some (.int (x3)), some (.int (x4))] [.int (v3)] h4 _
      refine jv_istore_n (L' := [some (.ref (x0)), none, some (.int (x2)), some (.int (v3)), some (.int (x4))]) (jv_dk t_X9_ancestor (k := 13) rfl) rfl (Nat.le_of_ble_eq_true rfl) rfl ?_
      refine jv_iinc (v := 1) (L' := [some (.ref (x0)), none, some (.int (x2)), some (.int (v3)), some (.int (x4 + 1))]) (jv_dk t_X9_ancestor (k := 14) rfl) rfl (by decide) rfl ?_
      refine jv_goto (tgt := 5) (jv_dk t_X9_ancestor (k := 15) rfl) rfl ?_
      exact hR5 _ _ _ _ _ 
def f_X9_ancestor (a0 : Nat) (a1 : Int32) (a2 : Int32) (h : jh) : Option (Int32 × jh) :=
  jlp4 (f_X9_ancestor_h5 (fun y6 h5 =>
  some (y6, h5))) jfu a0 a2 a1 0 h
theorem P_X9_ancestor (X : jx) (a0 : Nat) (a1 : Int32) (a2 : Int32) (h : jh) : jv_P X M_X9_ancestor jeI [.ref (a0), .int (a1), .int (a2)] h (f_X9_ancestor a0 a1 a2 h) := by
  refine jv_P.of (by decide) rfl (by simp [Value.category]) (Nat.le_of_ble_eq_true rfl) ?_
  show jv_O X M_X9_ancestor (h.1, h.2.1) jeI 0 [some (.ref (a0)), some (.int (a1)), some (.int (a2)), none, none] [] h (f_X9_ancestor a0 a1 a2 h)
  unfold f_X9_ancestor
  refine jv_iload_n (jv_dk t_X9_ancestor (k := 0) rfl) rfl rfl ?_
  refine jv_istore_n (L' := [some (.ref (a0)), some (.int (a1)), some (.int (a2)), some (.int (a1)), none]) (jv_dk t_X9_ancestor (k := 1) rfl) rfl (Nat.le_of_ble_eq_true rfl) rfl ?_
  refine jv_iconst (v := 0) (jv_dk t_X9_ancestor (k := 2) rfl) (by decide) ?_
  refine jv_istore (L' := [some (.ref (a0)), some (.int (a1)), some (.int (a2)), some (.int (a1)), some (.int (0))]) (jv_dk t_X9_ancestor (k := 3) rfl) (Nat.le_of_ble_eq_true rfl) rfl ?_
  refine jv_le_row (jv_le_s (jv_le_n (jv_le_s (jv_le_s (jv_le_s (jv_le_nil)))))) ?_
  refine o_f_X9_ancestor_h5 (fun y6 h5 => ?_) _ _ _ _ _ 
  show jv_O X M_X9_ancestor _ jeI 30 [none, none, none, some (.int (y6)), none] [] h5 _
  refine jv_iload_n (jv_dk t_X9_ancestor (k := 16) rfl) rfl rfl ?_
  exact jv_iret (ty := .int) (jv_dk t_X9_ancestor (k := 17) rfl) rfl rfl rfl
def t0_X10_inward : List (Nat × Instr × Nat) := [(0, .iload_n 2, 1), (1, .istore_n 3, 1), (2, .aload_n 0, 1), (3, .getfield 12, 3), (6, .iload_n 1, 1), (7, .invokevirtual 42, 3), (10, .iconst 1, 1), (11, .isub, 1), (12, .istore 4, 2), (14, .iload 4, 2), (16, .ifCond .lt 33, 3), (19, .aload_n 0, 1), (20, .aload_n 0, 1), (21, .getfield 12, 3), (24, .iload_n 1, 1), (25, .iload 4, 2), (27, .invokevirtual 46, 3), (30, .iload_n 3, 1), (31, .aload_n 0, 1), (32, .getfield 28, 3), (35, .aload_n 0, 1), (36, .getfield 25, 3), (39, .invokevirtual 50, 3), (42, .istore_n 3, 1), (43, .iinc 4 (-1), 3), (46, .goto (-32), 3), (49, .iload_n 3, 1), (50, .ireturn, 1)]
theorem t_X10_inward : jv_dec cX10_inward t0_X10_inward = true := by decide +kernel
def M_X10_inward : jm := (yX10_inward, cX10_inward, 5, (some .int), 2, 45, [])
theorem lk_X10_42 : jv_lk RX10 42 M_X9_depth := Or.inr ⟨"SpaceWarden", (jv_at 721 (by decide +kernel))⟩
theorem lk_X10_46 : jv_lk RX10 46 M_X9_ancestor := Or.inr ⟨"SpaceWarden", (jv_at 722 (by decide +kernel))⟩
set_option maxRecDepth 20000 in
theorem me_X9_ancestor : jv_me M_X9_ancestor 2 := ⟨(jv_in3 (List.mem_of_getElem? (i := 85) rfl)), (jv_at 166 (by decide +kernel)), ⟨by decide, by decide⟩, by decide +kernel⟩
theorem mv_X9_ancestor : jv_mv M_X9_ancestor := ⟨(jv_at 724 (by decide +kernel)), (jv_at 39 (by decide +kernel))⟩
def f_X10_inward_h14 (K14 : Int32 → jh → Option (Int32 × jh)) (R14 : Nat → Int32 → Int32 → Int32 → jh → Option (Int32 × jh)) (x0 : Nat) (x1 : Int32) (x3 : Int32) (x4 : Int32) (h : jh) : Option (Int32 × jh) :=
  (if x4 < 0 then
  K14 x3 h
  else
  gR h x0 8 0 fun v5 =>
  cV h v5 7 (f_X9_ancestor v5 x1 x4 h) fun v6 h7 =>
  gR h7 x0 8 4 fun v8 =>
  gR h7 x0 8 3 fun v9 =>
  cV h7 x0 8 (f_X10_through x0 v6 x3 v8 v9 h7) fun v10 h11 =>
  R14 x0 x1 v10 (x4 + (-1)) h11)
theorem o_f_X10_inward_h14 {X : jx} {b0 : Nat × Nat} {K14 : Int32 → jh → Option (Int32 × jh)} (hK14 : ∀ (x3 : Int32) (h : jh), jv_O X M_X10_inward b0 jeI 49 [none, none, none, some (.int (x3)), none] [] h (K14 x3 h)) : ∀ (x0 : Nat) (x1 : Int32) (x3 : Int32) (x4 : Int32) (h : jh), jv_O X M_X10_inward b0 jeI 14 [some (.ref (x0)), some (.int (x1)), none, some (.int (x3)), some (.int (x4))] [] h (jlp4 (f_X10_inward_h14 K14) jfu x0 x1 x3 x4 h) := by
  refine jlp4_ok (P := fun x0 x1 x3 x4 h o => jv_O X M_X10_inward b0 jeI 14 [some (.ref (x0)), some (.int (x1)), none, some (.int (x3)), some (.int (x4))] [] h o) (fun R14 hR14 => ?_) (fun _ _ _ _ _  => jv_none rfl) jfu
  intro x0 x1 x3 x4 h
  unfold f_X10_inward_h14
  refine jv_iload (jv_dk t_X10_inward (k := 9) rfl) rfl ?_
  refine jv_if_lt (tgt := 49) (jv_dk t_X10_inward (k := 10) rfl) rfl (fun c4 => ?_) (fun c4 => ?_)
  · refine jv_le_row (jv_le_n (jv_le_n (jv_le_n (jv_le_s (jv_le_n (jv_le_nil)))))) ?_
    exact hK14 _ _ 
  · show jv_O _ _ _ _ 19 _ _ _ _
    refine jv_aload_n (jv_dk t_X10_inward (k := 11) rfl) rfl rfl (Or.inr ⟨_, rfl⟩) ?_
    refine jv_aload_n (jv_dk t_X10_inward (k := 12) rfl) rfl rfl (Or.inr ⟨_, rfl⟩) ?_
    refine jv_gR (jv_dk t_X10_inward (k := 13) rfl) fl_X10_12 (fun v5 => ?_)
    refine jv_iload_n (jv_dk t_X10_inward (k := 14) rfl) rfl rfl ?_
    refine jv_iload (jv_dk t_X10_inward (k := 15) rfl) rfl ?_
    refine jv_callV (en' := jeI) (pv := jpI) (As := [.int (x1), .int (x4)]) (S := [.ref (x0)]) (jv_dk t_X10_inward (k := 16) rfl) (fun _ => rfl) lk_X10_46 me_X9_ancestor mv_X9_ancestor ⟨by decide, by decide⟩ rfl rfl rfl (Nat.le_of_ble_eq_true rfl) (P_X9_ancestor X v5 x1 x4 h) (fun v6 h7 => ?_)
    show jv_O X M_X10_inward _ jeI 30 [some (.ref (x0)), some (.int (x1)), none, some (.int (x3)), some (.int (x4))] [.int (v6), .ref (x0)] h7 _
    refine jv_iload_n (jv_dk t_X10_inward (k := 17) rfl) rfl rfl ?_
    refine jv_aload_n (jv_dk t_X10_inward (k := 18) rfl) rfl rfl (Or.inr ⟨_, rfl⟩) ?_
    refine jv_gR (jv_dk t_X10_inward (k := 19) rfl) fl_X10_28 (fun v8 => ?_)
    refine jv_aload_n (jv_dk t_X10_inward (k := 20) rfl) rfl rfl (Or.inr ⟨_, rfl⟩) ?_
    refine jv_gR (jv_dk t_X10_inward (k := 21) rfl) fl_X10_25 (fun v9 => ?_)
    refine jv_callV (en' := jeI) (pv := jpI) (As := [.int (v6), .int (x3), .ref (v8), .ref (v9)]) (S := []) (jv_dk t_X10_inward (k := 22) rfl) (fun _ => rfl) (Or.inl lk_X10_50) me_X10_through mv_X10_through ⟨by decide, by decide⟩ rfl rfl rfl (Nat.le_of_ble_eq_true rfl) (P_X10_through X x0 v6 x3 v8 v9 h7) (fun v10 h11 => ?_)
    show jv_O X M_X10_inward _ jeI 42 [some (.ref (x0)), some (.int (x1)), none, some (.int (x3)), some (.int (x4))] [.int (v10)] h11 _
    refine jv_istore_n (L' := [some (.ref (x0)), some (.int (x1)), none, some (.int (v10)), some (.int (x4))]) (jv_dk t_X10_inward (k := 23) rfl) rfl (Nat.le_of_ble_eq_true rfl) rfl ?_
    refine jv_iinc (v := (-1)) (L' := [some (.ref (x0)), some (.int (x1)), none, some (.int (v10)), some (.int (x4 + (-1)))]) (jv_dk t_X10_inward (k := 24) rfl) rfl (by decide) rfl ?_
    refine jv_goto (tgt := 14) (jv_dk t_X10_inward (k := 25) rfl) rfl ?_
    exact hR14 _ _ _ _ _ 
def f_X10_inward (a0 : Nat) (a1 : Int32) (a2 : Int32) (h : jh) : Option (Int32 × jh) :=
  gR h a0 8 0 fun v1 =>
  cV h v1 7 (f_X9_depth v1 a1 h) fun v2 h3 =>
  jlp4 (f_X10_inward_h14 (fun y13 h12 =>
  some (y13, h12))) jfu a0 a1 a2 (v2 - 1) h3
theorem P_X10_inward (X : jx) (a0 : Nat) (a1 : Int32) (a2 : Int32) (h : jh) : jv_P X M_X10_inward jeI [.ref (a0), .int (a1), .int (a2)] h (f_X10_inward a0 a1 a2 h) := by
  refine jv_P.of (by decide) rfl (by simp [Value.category]) (Nat.le_of_ble_eq_true rfl) ?_
  show jv_O X M_X10_inward (h.1, h.2.1) jeI 0 [some (.ref (a0)), some (.int (a1)), some (.int (a2)), none, none] [] h (f_X10_inward a0 a1 a2 h)
  unfold f_X10_inward
  refine jv_iload_n (jv_dk t_X10_inward (k := 0) rfl) rfl rfl ?_
  refine jv_istore_n (L' := [some (.ref (a0)), some (.int (a1)), some (.int (a2)), some (.int (a2)), none]) (jv_dk t_X10_inward (k := 1) rfl) rfl (Nat.le_of_ble_eq_true rfl) rfl ?_
  refine jv_aload_n (jv_dk t_X10_inward (k := 2) rfl) rfl rfl (Or.inr ⟨_, rfl⟩) ?_
  refine jv_gR (jv_dk t_X10_inward (k := 3) rfl) fl_X10_12 (fun v1 => ?_)
  refine jv_iload_n (jv_dk t_X10_inward (k := 4) rfl) rfl rfl ?_
  refine jv_callV (en' := jeI) (pv := jpI) (As := [.int (a1)]) (S := []) (jv_dk t_X10_inward (k := 5) rfl) (fun _ => rfl) lk_X10_42 me_X9_depth mv_X9_depth ⟨by decide, by decide⟩ rfl rfl rfl (Nat.le_of_ble_eq_true rfl) (P_X9_depth X v1 a1 h) (fun v2 h3 => ?_)
  show jv_O X M_X10_inward _ jeI 10 [some (.ref (a0)), some (.int (a1)), some (.int (a2)), some (.int (a2)), none] [.int (v2)] h3 _
  refine jv_iconst (v := 1) (jv_dk t_X10_inward (k := 6) rfl) (by decide) ?_
  refine jv_isub (jv_dk t_X10_inward (k := 7) rfl) ?_
  refine jv_istore (L' := [some (.ref (a0)), some (.int (a1)), some (.int (a2)), some (.int (a2)), some (.int (v2 - 1))]) (jv_dk t_X10_inward (k := 8) rfl) (Nat.le_of_ble_eq_true rfl) rfl ?_
  refine jv_le_row (jv_le_s (jv_le_s (jv_le_n (jv_le_s (jv_le_s (jv_le_nil)))))) ?_
  refine o_f_X10_inward_h14 (fun y13 h12 => ?_) _ _ _ _ _ 
  show jv_O X M_X10_inward _ jeI 49 [none, none, none, some (.int (y13)), none] [] h12 _
  refine jv_iload_n (jv_dk t_X10_inward (k := 26) rfl) rfl rfl ?_
  exact jv_iret (ty := .int) (jv_dk t_X10_inward (k := 27) rfl) rfl rfl rfl
def t0_X10_isRuled : List (Nat × Instr × Nat) := [(0, .iload_n 1, 1), (1, .istore 5, 2), (3, .iconst 0, 1), (4, .istore 6, 2), (6, .iload 6, 2), (8, .bipush 8, 2), (10, .if_icmp .ge 58, 3), (13, .iload 5, 2), (15, .iconst (-1), 1), (16, .if_icmp .eq 52, 3), (19, .aload_n 0, 1), (20, .getfield 12, 3), (23, .iload 5, 2), (25, .invokevirtual 54, 3), (28, .istore 7, 2), (30, .iload 5, 2), (32, .iload_n 2, 1), (33, .if_icmp .ne 5, 3), (36, .iload_n 3, 1), (37, .ireturn, 1), (38, .iload 7, 2), (40, .iload_n 2, 1), (41, .if_icmp .ne 17, 3), (44, .aload_n 0, 1), (45, .getfield 18, 3), (48, .iload 5, 2), (50, .iaload, 1), (51, .iload 4, 2), (53, .if_icmp .ne 5, 3), (56, .iconst 1, 1), (57, .ireturn, 1), (58, .iload 7, 2), (60, .istore 5, 2), (62, .iinc 6 1, 3), (65, .goto (-59), 3), (68, .iconst 0, 1), (69, .ireturn, 1)]
theorem t_X10_isRuled : jv_dec cX10_isRuled t0_X10_isRuled = true := by decide +kernel
def M_X10_isRuled : jm := (yX10_isRuled, cX10_isRuled, 8, (some .boolean), 1, 21, [])
theorem fl_X10_18 : jv_F RX10 18 8 1 RX10 TX10 6 := ⟨rfl, by decide, inX10, Or.inl (jv_at 314 (by decide +kernel))⟩
def f_X10_isRuled_h6 (K6 : jh → Option (Int32 × jh)) (R6 : Nat → Int32 → Int32 → Int32 → Int32 → Int32 → jh → Option (Int32 × jh)) (x0 : Nat) (x2 : Int32) (x3 : Int32) (x4 : Int32) (x5 : Int32) (x6 : Int32) (h : jh) : Option (Int32 × jh) :=
  (if 8 ≤ x6 then
  K6  h
  else
  (if x5 = (-1) then
  K6  h
  else
  gR h x0 8 0 fun v3 =>
  cV h v3 7 (f_X9_around v3 x5 h) fun v4 h5 =>
  (if ¬ x5 = x2 then
  (if ¬ v4 = x2 then
  R6 x0 x2 x3 x4 v4 (x6 + 1) h5
  else
  gR h5 x0 8 1 fun v8 =>
  aI h5 v8 x5 fun v9 =>
  (if ¬ v9 = x4 then
  R6 x0 x2 x3 x4 v4 (x6 + 1) h5
  else
  some (1, h5)))
  else
  jz x3 h5)))
theorem o_f_X10_isRuled_h6 {X : jx} {b0 : Nat × Nat} {K6 : jh → Option (Int32 × jh)} (hK6 : ∀  (h : jh), jv_O X M_X10_isRuled b0 jeI 68 [none, none, none, none, none, none, none, none] [] h (K6  h)) : ∀ (x0 : Nat) (x2 : Int32) (x3 : Int32) (x4 : Int32) (x5 : Int32) (x6 : Int32) (h : jh), jv_O X M_X10_isRuled b0 jeI 6 [some (.ref (x0)), none, some (.int (x2)), some (.int (x3)), some (.int (x4)), some (.int (x5)), some (.int (x6)), none] [] h (jlp6 (f_X10_isRuled_h6 K6) jfu x0 x2 x3 x4 x5 x6 h) := by
  refine jlp6_ok (P := fun x0 x2 x3 x4 x5 x6 h o => jv_O X M_X10_isRuled b0 jeI 6 [some (.ref (x0)), none, some (.int (x2)), some (.int (x3)), some (.int (x4)), some (.int (x5)), some (.int (x6)), none] [] h o) (fun R6 hR6 => ?_) (fun _ _ _ _ _ _ _  => jv_none rfl) jfu
  intro x0 x2 x3 x4 x5 x6 h
  unfold f_X10_isRuled_h6
  refine jv_iload (jv_dk t_X10_isRuled (k := 4) rfl) rfl ?_
  refine jv_bipush (v := 8) (jv_dk t_X10_isRuled (k := 5) rfl) (by decide) ?_
  refine jv_icmp_ge (tgt := 68) (jv_dk t_X10_isRuled (k := 6) rfl) rfl (fun c1 => ?_) (fun c1 => ?_)
  · refine jv_le_row (jv_le_n (jv_le_n (jv_le_n (jv_le_n (jv_le_n (jv_le_n (jv_le_n (jv_le_n (jv_le_nil))))))))) ?_
    exact hK6 _ 
  · show jv_O _ _ _ _ 13 _ _ _ _
    refine jv_iload (jv_dk t_X10_isRuled (k := 7) rfl) rfl ?_
    refine jv_iconst (v := (-1)) (jv_dk t_X10_isRuled (k := 8) rfl) (by decide) ?_
    refine jv_icmp_eq (tgt := 68) (jv_dk t_X10_isRuled (k := 9) rfl) rfl (fun c2 => ?_) (fun c2 => ?_)
    · refine jv_le_row (jv_le_n (jv_le_n (jv_le_n (jv_le_n (jv_le_n (jv_le_n (jv_le_n (jv_le_n (jv_le_nil))))))))) ?_
      exact hK6 _ 
    · show jv_O _ _ _ _ 19 _ _ _ _
      refine jv_aload_n (jv_dk t_X10_isRuled (k := 10) rfl) rfl rfl (Or.inr ⟨_, rfl⟩) ?_
      refine jv_gR (jv_dk t_X10_isRuled (k := 11) rfl) fl_X10_12 (fun v3 => ?_)
      refine jv_iload (jv_dk t_X10_isRuled (k := 12) rfl) rfl ?_
      refine jv_callV (en' := jeI) (pv := jpI) (As := [.int (x5)]) (S := []) (jv_dk t_X10_isRuled (k := 13) rfl) (fun _ => rfl) lk_X10_54 me_X9_around mv_X9_around ⟨by decide, by decide⟩ rfl rfl rfl (Nat.le_of_ble_eq_true rfl) (P_X9_around X v3 x5 h) (fun v4 h5 => ?_)
      show jv_O X M_X10_isRuled _ jeI 28 [some (.ref (x0)), none, some (.int (x2)), some (.int (x3)), some (.int (x4)), some (.int (x5)), some (.int (x6)), none] [.int (v4)] h5 _
      refine jv_istore (L' := [some (.ref (x0)), none, some (.int (x2)), some (.int (x3)), some (.int (x4)), some (.int (x5)), some (.int (x6)), some (.int (v4))]) (jv_dk t_X10_isRuled (k := 14) rfl) (Nat.le_of_ble_eq_true rfl) rfl ?_
      refine jv_iload (jv_dk t_X10_isRuled (k := 15) rfl) rfl ?_
      refine jv_iload_n (jv_dk t_X10_isRuled (k := 16) rfl) rfl rfl ?_
      refine jv_icmp_ne (tgt := 38) (jv_dk t_X10_isRuled (k := 17) rfl) rfl (fun c6 => ?_) (fun c6 => ?_)
      · refine jv_iload (jv_dk t_X10_isRuled (k := 20) rfl) rfl ?_
        refine jv_iload_n (jv_dk t_X10_isRuled (k := 21) rfl) rfl rfl ?_
        refine jv_icmp_ne (tgt := 58) (jv_dk t_X10_isRuled (k := 22) rfl) rfl (fun c7 => ?_) (fun c7 => ?_)
        · refine jv_iload (jv_dk t_X10_isRuled (k := 31) rfl) rfl ?_
          refine jv_istore (L' := [some (.ref (x0)), none, some (.int (x2)), some (.int (x3)), some (.int (x4)), some (.int (v4)), some (.int (x6)), some (.int (v4))]) (jv_dk t_X10_isRuled (k := 32) rfl) (Nat.le_of_ble_eq_true rfl) rfl ?_
          refine jv_iinc (v := 1) (L' := [some (.ref (x0)), none, some (.int (x2)), some (.int (x3)), some (.int (x4)), some (.int (v4)), some (.int (x6 + 1)), some (.int (v4))]) (jv_dk t_X10_isRuled (k := 33) rfl) rfl (by decide) rfl ?_
          refine jv_goto (tgt := 6) (jv_dk t_X10_isRuled (k := 34) rfl) rfl ?_
          refine jv_le_row (jv_le_s (jv_le_n (jv_le_s (jv_le_s (jv_le_s (jv_le_s (jv_le_s (jv_le_n (jv_le_nil))))))))) ?_
          exact hR6 _ _ _ _ _ _ _ 
        · show jv_O _ _ _ _ 44 _ _ _ _
          refine jv_aload_n (jv_dk t_X10_isRuled (k := 23) rfl) rfl rfl (Or.inr ⟨_, rfl⟩) ?_
          refine jv_gR (jv_dk t_X10_isRuled (k := 24) rfl) fl_X10_18 (fun v8 => ?_)
          refine jv_iload (jv_dk t_X10_isRuled (k := 25) rfl) rfl ?_
          refine jv_iaload (jv_dk t_X10_isRuled (k := 26) rfl) (fun v9 => ?_)
          refine jv_iload (jv_dk t_X10_isRuled (k := 27) rfl) rfl ?_
          refine jv_icmp_ne (tgt := 58) (jv_dk t_X10_isRuled (k := 28) rfl) rfl (fun c10 => ?_) (fun c10 => ?_)
          · refine jv_iload (jv_dk t_X10_isRuled (k := 31) rfl) rfl ?_
            refine jv_istore (L' := [some (.ref (x0)), none, some (.int (x2)), some (.int (x3)), some (.int (x4)), some (.int (v4)), some (.int (x6)), some (.int (v4))]) (jv_dk t_X10_isRuled (k := 32) rfl) (Nat.le_of_ble_eq_true rfl) rfl ?_
            refine jv_iinc (v := 1) (L' := [some (.ref (x0)), none, some (.int (x2)), some (.int (x3)), some (.int (x4)), some (.int (v4)), some (.int (x6 + 1)), some (.int (v4))]) (jv_dk t_X10_isRuled (k := 33) rfl) rfl (by decide) rfl ?_
            refine jv_goto (tgt := 6) (jv_dk t_X10_isRuled (k := 34) rfl) rfl ?_
            refine jv_le_row (jv_le_s (jv_le_n (jv_le_s (jv_le_s (jv_le_s (jv_le_s (jv_le_s (jv_le_n (jv_le_nil))))))))) ?_
            exact hR6 _ _ _ _ _ _ _ 
          · show jv_O _ _ _ _ 56 _ _ _ _
            refine jv_iconst (v := 1) (jv_dk t_X10_isRuled (k := 29) rfl) (by decide) ?_
            exact jv_iret (ty := .boolean) (jv_dk t_X10_isRuled (k := 30) rfl) rfl rfl rfl
      · show jv_O _ _ _ _ 36 _ _ _ _
        refine jv_iload_n (jv_dk t_X10_isRuled (k := 18) rfl) rfl rfl ?_
        unfold jz
        by_cases c11 : x3 &&& 1 = x3
        · rw [if_pos c11]; exact jv_iret (ty := .boolean) (jv_dk t_X10_isRuled (k := 19) rfl) rfl (jv_nb c11) rfl
        · rw [if_neg c11]; exact jv_none rfl
def f_X10_isRuled (a0 : Nat) (a1 : Int32) (a2 : Int32) (a3 : Int32) (a4 : Int32) (h : jh) : Option (Int32 × jh) :=
  jlp6 (f_X10_isRuled_h6 (fun  h12 =>
  some (0, h12))) jfu a0 a2 a3 a4 a1 0 h
theorem P_X10_isRuled (X : jx) (a0 : Nat) (a1 : Int32) (a2 : Int32) (a3 : Int32) (a4 : Int32) (h : jh) : jv_P X M_X10_isRuled jeI [.ref (a0), .int (a1), .int (a2), .int (a3), .int (a4)] h (f_X10_isRuled a0 a1 a2 a3 a4 h) := by
  refine jv_P.of (by decide) rfl (by simp [Value.category]) (Nat.le_of_ble_eq_true rfl) ?_
  show jv_O X M_X10_isRuled (h.1, h.2.1) jeI 0 [some (.ref (a0)), some (.int (a1)), some (.int (a2)), some (.int (a3)), some (.int (a4)), none, none, none] [] h (f_X10_isRuled a0 a1 a2 a3 a4 h)
  unfold f_X10_isRuled
  refine jv_iload_n (jv_dk t_X10_isRuled (k := 0) rfl) rfl rfl ?_
  refine jv_istore (L' := [some (.ref (a0)), some (.int (a1)), some (.int (a2)), some (.int (a3)), some (.int (a4)), some (.int (a1)), none, none]) (jv_dk t_X10_isRuled (k := 1) rfl) (Nat.le_of_ble_eq_true rfl) rfl ?_
  refine jv_iconst (v := 0) (jv_dk t_X10_isRuled (k := 2) rfl) (by decide) ?_
  refine jv_istore (L' := [some (.ref (a0)), some (.int (a1)), some (.int (a2)), some (.int (a3)), some (.int (a4)), some (.int (a1)), some (.int (0)), none]) (jv_dk t_X10_isRuled (k := 3) rfl) (Nat.le_of_ble_eq_true rfl) rfl ?_
  refine jv_le_row (jv_le_s (jv_le_n (jv_le_s (jv_le_s (jv_le_s (jv_le_s (jv_le_s (jv_le_n (jv_le_nil))))))))) ?_
  refine o_f_X10_isRuled_h6 (fun  h12 => ?_) _ _ _ _ _ _ _ 
  show jv_O X M_X10_isRuled _ jeI 68 [none, none, none, none, none, none, none, none] [] h12 _
  refine jv_iconst (v := 0) (jv_dk t_X10_isRuled (k := 35) rfl) (by decide) ?_
  exact jv_iret (ty := .boolean) (jv_dk t_X10_isRuled (k := 36) rfl) rfl rfl rfl
def t0_X11_rules : List (Nat × Instr × Nat) := [(0, .aload_n 0, 1), (1, .getfield 28, 3), (4, .iload_n 2, 1), (5, .aload_n 0, 1), (6, .getfield 12, 3), (9, .getfield 137, 3), (12, .iload_n 1, 1), (13, .iaload, 1), (14, .aload_n 0, 1), (15, .getfield 12, 3), (18, .iload_n 1, 1), (19, .invokevirtual 140, 3), (22, .aload_n 0, 1), (23, .getfield 12, 3), (26, .getfield 143, 3), (29, .iload_n 1, 1), (30, .iaload, 1), (31, .invokevirtual 146, 3), (34, .ireturn, 1)]
theorem t_X11_rules : jv_dec cX11_rules t0_X11_rules = true := by decide +kernel
def M_X11_rules : jm := (yX11_rules, cX11_rules, 3, (some .boolean), 2, 48, [])
theorem lk_X11_146 : jv_lk RX11 146 M_X10_isRuled := Or.inr ⟨"SpaceWarden", (jv_at 730 (by decide +kernel))⟩
set_option maxRecDepth 20000 in
theorem me_X10_isRuled : jv_me M_X10_isRuled 4 := ⟨(jv_in3 (List.mem_of_getElem? (i := 93) rfl)), (jv_at 167 (by decide +kernel)), ⟨by decide, by decide⟩, by decide +kernel⟩
theorem mv_X10_isRuled : jv_mv M_X10_isRuled := ⟨(jv_at 732 (by decide +kernel)), (jv_at 41 (by decide +kernel))⟩
def f_X11_rules (a0 : Nat) (a1 : Int32) (a2 : Int32) (h : jh) : Option (Int32 × jh) :=
  gR h a0 9 2 fun v1 =>
  gR h a0 9 0 fun v2 =>
  gR h v2 3 2 fun v3 =>
  aI h v3 a1 fun v4 =>
  gR h a0 9 0 fun v5 =>
  cV h v5 3 (f_X5_hasPower v5 a1 h) fun v6 h7 =>
  gR h7 a0 9 0 fun v8 =>
  gR h7 v8 3 5 fun v9 =>
  aI h7 v9 a1 fun v10 =>
  cV h7 v1 8 (f_X10_isRuled v1 a2 v4 v6 v10 h7) fun v11 h12 =>
  jz v11 h12
theorem P_X11_rules (X : jx) (a0 : Nat) (a1 : Int32) (a2 : Int32) (h : jh) : jv_P X M_X11_rules jeI [.ref (a0), .int (a1), .int (a2)] h (f_X11_rules a0 a1 a2 h) := by
  refine jv_P.of (by decide) rfl (by simp [Value.category]) (Nat.le_of_ble_eq_true rfl) ?_
  show jv_O X M_X11_rules (h.1, h.2.1) jeI 0 [some (.ref (a0)), some (.int (a1)), some (.int (a2))] [] h (f_X11_rules a0 a1 a2 h)
  unfold f_X11_rules
  refine jv_aload_n (jv_dk t_X11_rules (k := 0) rfl) rfl rfl (Or.inr ⟨_, rfl⟩) ?_
  refine jv_gR (jv_dk t_X11_rules (k := 1) rfl) fl_X11_28 (fun v1 => ?_)
  refine jv_iload_n (jv_dk t_X11_rules (k := 2) rfl) rfl rfl ?_
  refine jv_aload_n (jv_dk t_X11_rules (k := 3) rfl) rfl rfl (Or.inr ⟨_, rfl⟩) ?_
  refine jv_gR (jv_dk t_X11_rules (k := 4) rfl) fl_X11_12 (fun v2 => ?_)
  refine jv_gR (jv_dk t_X11_rules (k := 5) rfl) fl_X11_137 (fun v3 => ?_)
  refine jv_iload_n (jv_dk t_X11_rules (k := 6) rfl) rfl rfl ?_
  refine jv_iaload (jv_dk t_X11_rules (k := 7) rfl) (fun v4 => ?_)
  refine jv_aload_n (jv_dk t_X11_rules (k := 8) rfl) rfl rfl (Or.inr ⟨_, rfl⟩) ?_
  refine jv_gR (jv_dk t_X11_rules (k := 9) rfl) fl_X11_12 (fun v5 => ?_)
  refine jv_iload_n (jv_dk t_X11_rules (k := 10) rfl) rfl rfl ?_
  refine jv_callV (en' := jeI) (pv := jpI) (As := [.int (a1)]) (S := [.int (v4), .int (a2), .ref (v1)]) (jv_dk t_X11_rules (k := 11) rfl) (fun _ => rfl) lk_X11_140 me_X5_hasPower mv_X5_hasPower ⟨by decide, by decide⟩ rfl rfl rfl (Nat.le_of_ble_eq_true rfl) (P_X5_hasPower X v5 a1 h) (fun v6 h7 => ?_)
  show jv_O X M_X11_rules _ jeI 22 [some (.ref (a0)), some (.int (a1)), some (.int (a2))] [.int (v6), .int (v4), .int (a2), .ref (v1)] h7 _
  refine jv_aload_n (jv_dk t_X11_rules (k := 12) rfl) rfl rfl (Or.inr ⟨_, rfl⟩) ?_
  refine jv_gR (jv_dk t_X11_rules (k := 13) rfl) fl_X11_12 (fun v8 => ?_)
  refine jv_gR (jv_dk t_X11_rules (k := 14) rfl) fl_X11_143 (fun v9 => ?_)
  refine jv_iload_n (jv_dk t_X11_rules (k := 15) rfl) rfl rfl ?_
  refine jv_iaload (jv_dk t_X11_rules (k := 16) rfl) (fun v10 => ?_)
  refine jv_callV (en' := jeI) (pv := jpI) (As := [.int (a2), .int (v4), .int (v6), .int (v10)]) (S := []) (jv_dk t_X11_rules (k := 17) rfl) (fun _ => rfl) lk_X11_146 me_X10_isRuled mv_X10_isRuled ⟨by decide, by decide⟩ rfl rfl rfl (Nat.le_of_ble_eq_true rfl) (P_X10_isRuled X v1 a2 v4 v6 v10 h7) (fun v11 h12 => ?_)
  show jv_O X M_X11_rules _ jeI 34 [some (.ref (a0)), some (.int (a1)), some (.int (a2))] [.int (v11)] h12 _
  unfold jz
  by_cases c13 : v11 &&& 1 = v11
  · rw [if_pos c13]; exact jv_iret (ty := .boolean) (jv_dk t_X11_rules (k := 18) rfl) rfl (jv_nb c13) rfl
  · rw [if_neg c13]; exact jv_none rfl
def t0_X10_add : List (Nat × Instr × Nat) := [(0, .aload_n 0, 1), (1, .getfield 12, 3), (4, .iload_n 1, 1), (5, .invokevirtual 62, 3), (8, .ifCond .eq 13, 3), (11, .aload_n 0, 1), (12, .getfield 22, 3), (15, .iload_n 1, 1), (16, .iaload, 1), (17, .iconst 3, 1), (18, .if_icmp .lt 5, 3), (21, .iconst (-1), 1), (22, .ireturn, 1), (23, .iload_n 1, 1), (24, .iconst 3, 1), (25, .imul, 1), (26, .istore 5, 2), (28, .iload 5, 2), (30, .aload_n 0, 1), (31, .getfield 22, 3), (34, .iload_n 1, 1), (35, .iaload, 1), (36, .iadd, 1), (37, .istore 6, 2), (39, .iconst 0, 1), (40, .istore 7, 2), (42, .iload 7, 2), (44, .iconst 3, 1), (45, .if_icmp .ge 80, 3), (48, .iload 6, 2), (50, .iload 5, 2), (52, .if_icmp .le 73, 3), (55, .aload_n 0, 1), (56, .getfield 25, 3), (59, .iload 6, 2), (61, .iconst 1, 1), (62, .isub, 1), (63, .iaload, 1), (64, .iload_n 2, 1), (65, .if_icmp .le 60, 3), (68, .aload_n 0, 1), (69, .getfield 25, 3), (72, .iload 6, 2), (74, .aload_n 0, 1), (75, .getfield 25, 3), (78, .iload 6, 2), (80, .iconst 1, 1), (81, .isub, 1), (82, .iaload, 1), (83, .iastore, 1), (84, .aload_n 0, 1), (85, .getfield 28, 3), (88, .iload 6, 2), (90, .aload_n 0, 1), (91, .getfield 28, 3), (94, .iload 6, 2), (96, .iconst 1, 1), (97, .isub, 1), (98, .iaload, 1), (99, .iastore, 1), (100, .aload_n 0, 1), (101, .getfield 31, 3), (104, .iload 6, 2), (106, .aload_n 0, 1), (107, .getfield 31, 3), (110, .iload 6, 2), (112, .iconst 1, 1), (113, .isub, 1), (114, .iaload, 1), (115, .iastore, 1), (116, .iinc 6 (-1), 3), (119, .iinc 7 1, 3), (122, .goto (-80), 3), (125, .aload_n 0, 1), (126, .getfield 25, 3), (129, .iload 6, 2), (131, .iload_n 2, 1), (132, .iastore, 1), (133, .aload_n 0, 1), (134, .getfield 28, 3), (137, .iload 6, 2), (139, .iload_n 3, 1), (140, .iastore, 1), (141, .aload_n 0, 1), (142, .getfield 31, 3), (145, .iload 6, 2), (147, .iload 4, 2), (149, .iastore, 1), (150, .aload_n 0, 1), (151, .getfield 22, 3), (154, .iload_n 1, 1), (155, .dup2, 1), (156, .iaload, 1), (157, .iconst 1, 1), (158, .iadd, 1), (159, .iastore, 1), (160, .aload_n 0, 1), (161, .getfield 22, 3), (164, .iload_n 1, 1), (165, .iaload, 1), (166, .ireturn, 1)]
theorem t_X10_add : jv_dec cX10_add t0_X10_add = true := by decide +kernel
def M_X10_add : jm := (yX10_add, cX10_add, 8, (some .int), 1, 21, [])
def f_X10_add_h42 (K42 : Nat → Int32 → Int32 → Int32 → Int32 → Int32 → jh → Option (Int32 × jh)) (R42 : Nat → Int32 → Int32 → Int32 → Int32 → Int32 → Int32 → Int32 → jh → Option (Int32 × jh)) (x0 : Nat) (x1 : Int32) (x2 : Int32) (x3 : Int32) (x4 : Int32) (x5 : Int32) (x6 : Int32) (x7 : Int32) (h : jh) : Option (Int32 × jh) :=
  (if 3 ≤ x7 then
  K42 x0 x1 x2 x3 x4 x6 h
  else
  (if x6 ≤ x5 then
  K42 x0 x1 x2 x3 x4 x6 h
  else
  gR h x0 8 3 fun v12 =>
  aI h v12 (x6 - 1) fun v13 =>
  (if v13 ≤ x2 then
  K42 x0 x1 x2 x3 x4 x6 h
  else
  gR h x0 8 3 fun v15 =>
  gR h x0 8 3 fun v16 =>
  aI h v16 (x6 - 1) fun v17 =>
  sI h v15 x6 v17 fun h18 =>
  gR h18 x0 8 4 fun v19 =>
  gR h18 x0 8 4 fun v20 =>
  aI h18 v20 (x6 - 1) fun v21 =>
  sI h18 v19 x6 v21 fun h22 =>
  gR h22 x0 8 5 fun v23 =>
  gR h22 x0 8 5 fun v24 =>
  aI h22 v24 (x6 - 1) fun v25 =>
  sI h22 v23 x6 v25 fun h26 =>
  R42 x0 x1 x2 x3 x4 x5 (x6 + (-1)) (x7 + 1) h26)))
theorem o_f_X10_add_h42 {X : jx} {b0 : Nat × Nat} {K42 : Nat → Int32 → Int32 → Int32 → Int32 → Int32 → jh → Option (Int32 × jh)} (hK42 : ∀ (x0 : Nat) (x1 : Int32) (x2 : Int32) (x3 : Int32) (x4 : Int32) (x6 : Int32) (h : jh), jv_O X M_X10_add b0 jeI 125 [some (.ref (x0)), some (.int (x1)), some (.int (x2)), some (.int (x3)), some (.int (x4)), none, some (.int (x6)), none] [] h (K42 x0 x1 x2 x3 x4 x6 h)) : ∀ (x0 : Nat) (x1 : Int32) (x2 : Int32) (x3 : Int32) (x4 : Int32) (x5 : Int32) (x6 : Int32) (x7 : Int32) (h : jh), jv_O X M_X10_add b0 jeI 42 [some (.ref (x0)), some (.int (x1)), some (.int (x2)), some (.int (x3)), some (.int (x4)), some (.int (x5)), some (.int (x6)), some (.int (x7))] [] h (jlp8 (f_X10_add_h42 K42) jfu x0 x1 x2 x3 x4 x5 x6 x7 h) := by
  refine jlp8_ok (P := fun x0 x1 x2 x3 x4 x5 x6 x7 h o => jv_O X M_X10_add b0 jeI 42 [some (.ref (x0)), some (.int (x1)), some (.int (x2)), some (.int (x3)), some (.int (x4)), some (.int (x5)), some (.int (x6)), some (.int (x7))] [] h o) (fun R42 hR42 => ?_) (fun _ _ _ _ _ _ _ _ _  => jv_none rfl) jfu
  intro x0 x1 x2 x3 x4 x5 x6 x7 h
  unfold f_X10_add_h42
  refine jv_iload (jv_dk t_X10_add (k := 26) rfl) rfl ?_
  refine jv_iconst (v := 3) (jv_dk t_X10_add (k := 27) rfl) (by decide) ?_
  refine jv_icmp_ge (tgt := 125) (jv_dk t_X10_add (k := 28) rfl) rfl (fun c10 => ?_) (fun c10 => ?_)
  · refine jv_le_row (jv_le_s (jv_le_s (jv_le_s (jv_le_s (jv_le_s (jv_le_n (jv_le_s (jv_le_n (jv_le_nil))))))))) ?_
    exact hK42 _ _ _ _ _ _ _ 
  · show jv_O _ _ _ _ 48 _ _ _ _
    refine jv_iload (jv_dk t_X10_add (k := 29) rfl) rfl ?_
    refine jv_iload (jv_dk t_X10_add (k := 30) rfl) rfl ?_
    refine jv_icmp_le (tgt := 125) (jv_dk t_X10_add (k := 31) rfl) rfl (fun c11 => ?_) (fun c11 => ?_)
    · refine jv_le_row (jv_le_s (jv_le_s (jv_le_s (jv_le_s (jv_le_s (jv_le_n (jv_le_s (jv_le_n (jv_le_nil))))))))) ?_
      exact hK42 _ _ _ _ _ _ _ 
    · show jv_O _ _ _ _ 55 _ _ _ _
      refine jv_aload_n (jv_dk t_X10_add (k := 32) rfl) rfl rfl (Or.inr ⟨_, rfl⟩) ?_
      refine jv_gR (jv_dk t_X10_add (k := 33) rfl) fl_X10_25 (fun v12 => ?_)
      refine jv_iload (jv_dk t_X10_add (k := 34) rfl) rfl ?_
      refine jv_iconst (v := 1) (jv_dk t_X10_add (k := 35) rfl) (by decide) ?_
      refine jv_isub (jv_dk t_X10_add (k := 36) rfl) ?_
      refine jv_iaload (jv_dk t_X10_add (k := 37) rfl) (fun v13 => ?_)
      refine jv_iload_n (jv_dk t_X10_add (k := 38) rfl) rfl rfl ?_
      refine jv_icmp_le (tgt := 125) (jv_dk t_X10_add (k := 39) rfl) rfl (fun c14 => ?_) (fun c14 => ?_)
      · refine jv_le_row (jv_le_s (jv_le_s (jv_le_s (jv_le_s (jv_le_s (jv_le_n (jv_le_s (jv_le_n (jv_le_nil))))))))) ?_
        exact hK42 _ _ _ _ _ _ _ 
      · show jv_O _ _ _ _ 68 _ _ _ _
        refine jv_aload_n (jv_dk t_X10_add (k := 40) rfl) rfl rfl (Or.inr ⟨_, rfl⟩) ?_
        refine jv_gR (jv_dk t_X10_add (k := 41) rfl) fl_X10_25 (fun v15 => ?_)
        refine jv_iload (jv_dk t_X10_add (k := 42) rfl) rfl ?_
        refine jv_aload_n (jv_dk t_X10_add (k := 43) rfl) rfl rfl (Or.inr ⟨_, rfl⟩) ?_
        refine jv_gR (jv_dk t_X10_add (k := 44) rfl) fl_X10_25 (fun v16 => ?_)
        refine jv_iload (jv_dk t_X10_add (k := 45) rfl) rfl ?_
        refine jv_iconst (v := 1) (jv_dk t_X10_add (k := 46) rfl) (by decide) ?_
        refine jv_isub (jv_dk t_X10_add (k := 47) rfl) ?_
        refine jv_iaload (jv_dk t_X10_add (k := 48) rfl) (fun v17 => ?_)
        refine jv_iastore (jv_dk t_X10_add (k := 49) rfl) (fun h18 => ?_)
        refine jv_aload_n (jv_dk t_X10_add (k := 50) rfl) rfl rfl (Or.inr ⟨_, rfl⟩) ?_
        refine jv_gR (jv_dk t_X10_add (k := 51) rfl) fl_X10_28 (fun v19 => ?_)
        refine jv_iload (jv_dk t_X10_add (k := 52) rfl) rfl ?_
        refine jv_aload_n (jv_dk t_X10_add (k := 53) rfl) rfl rfl (Or.inr ⟨_, rfl⟩) ?_
        refine jv_gR (jv_dk t_X10_add (k := 54) rfl) fl_X10_28 (fun v20 => ?_)
        refine jv_iload (jv_dk t_X10_add (k := 55) rfl) rfl ?_
        refine jv_iconst (v := 1) (jv_dk t_X10_add (k := 56) rfl) (by decide) ?_
        refine jv_isub (jv_dk t_X10_add (k := 57) rfl) ?_
        refine jv_iaload (jv_dk t_X10_add (k := 58) rfl) (fun v21 => ?_)
        refine jv_iastore (jv_dk t_X10_add (k := 59) rfl) (fun h22 => ?_)
        refine jv_aload_n (jv_dk t_X10_add (k := 60) rfl) rfl rfl (Or.inr ⟨_, rfl⟩) ?_
        refine jv_gR (jv_dk t_X10_add (k := 61) rfl) fl_X10_31 (fun v23 => ?_)
        refine jv_iload (jv_dk t_X10_add (k := 62) rfl) rfl ?_
        refine jv_aload_n (jv_dk t_X10_add (k := 63) rfl) rfl rfl (Or.inr ⟨_, rfl⟩) ?_
        refine jv_gR (jv_dk t_X10_add (k := 64) rfl) fl_X10_31 (fun v24 => ?_)
        refine jv_iload (jv_dk t_X10_add (k := 65) rfl) rfl ?_
        refine jv_iconst (v := 1) (jv_dk t_X10_add (k := 66) rfl) (by decide) ?_
        refine jv_isub (jv_dk t_X10_add (k := 67) rfl) ?_
        refine jv_iaload (jv_dk t_X10_add (k := 68) rfl) (fun v25 => ?_)
        refine jv_iastore (jv_dk t_X10_add (k := 69) rfl) (fun h26 => ?_)
        refine jv_iinc (v := (-1)) (L' := [some (.ref (x0)), some (.int (x1)), some (.int (x2)), some (.int (x3)), some (.int (x4)), some (.int (x5)), some (.int (x6 + (-1))), some (.int (x7))]) (jv_dk t_X10_add (k := 70) rfl) rfl (by decide) rfl ?_
        refine jv_iinc (v := 1) (L' := [some (.ref (x0)), some (.int (x1)), some (.int (x2)), some (.int (x3)), some (.int (x4)), some (.int (x5)), some (.int (x6 + (-1))), some (.int (x7 + 1))]) (jv_dk t_X10_add (k := 71) rfl) rfl (by decide) rfl ?_
        refine jv_goto (tgt := 42) (jv_dk t_X10_add (k := 72) rfl) rfl ?_
        exact hR42 _ _ _ _ _ _ _ _ _ 
def f_X10_add_b125 (x0 : Nat) (x1 : Int32) (x2 : Int32) (x3 : Int32) (x4 : Int32) (x6 : Int32) (h : jh) : Option (Int32 × jh) :=
  gR h x0 8 3 fun v34 =>
  sI h v34 x6 x2 fun h35 =>
  gR h35 x0 8 4 fun v36 =>
  sI h35 v36 x6 x3 fun h37 =>
  gR h37 x0 8 5 fun v38 =>
  sI h37 v38 x6 x4 fun h39 =>
  gR h39 x0 8 2 fun v40 =>
  aI h39 v40 x1 fun v41 =>
  sI h39 v40 x1 (v41 + 1) fun h42 =>
  gR h42 x0 8 2 fun v43 =>
  aI h42 v43 x1 fun v44 =>
  some (v44, h42)
theorem o_f_X10_add_b125 {X : jx} {b0 : Nat × Nat} (x0 : Nat) (x1 : Int32) (x2 : Int32) (x3 : Int32) (x4 : Int32) (x6 : Int32) (h : jh) : jv_O X M_X10_add b0 jeI 125 [some (.ref (x0)), some (.int (x1)), some (.int (x2)), some (.int (x3)), some (.int (x4)), none, some (.int (x6)), none] [] h (f_X10_add_b125 x0 x1 x2 x3 x4 x6 h) := by
  unfold f_X10_add_b125
  refine jv_aload_n (jv_dk t_X10_add (k := 73) rfl) rfl rfl (Or.inr ⟨_, rfl⟩) ?_
  refine jv_gR (jv_dk t_X10_add (k := 74) rfl) fl_X10_25 (fun v34 => ?_)
  refine jv_iload (jv_dk t_X10_add (k := 75) rfl) rfl ?_
  refine jv_iload_n (jv_dk t_X10_add (k := 76) rfl) rfl rfl ?_
  refine jv_iastore (jv_dk t_X10_add (k := 77) rfl) (fun h35 => ?_)
  refine jv_aload_n (jv_dk t_X10_add (k := 78) rfl) rfl rfl (Or.inr ⟨_, rfl⟩) ?_
  refine jv_gR (jv_dk t_X10_add (k := 79) rfl) fl_X10_28 (fun v36 => ?_)
  refine jv_iload (jv_dk t_X10_add (k := 80) rfl) rfl ?_
  refine jv_iload_n (jv_dk t_X10_add (k := 81) rfl) rfl rfl ?_
  refine jv_iastore (jv_dk t_X10_add (k := 82) rfl) (fun h37 => ?_)
  refine jv_aload_n (jv_dk t_X10_add (k := 83) rfl) rfl rfl (Or.inr ⟨_, rfl⟩) ?_
  refine jv_gR (jv_dk t_X10_add (k := 84) rfl) fl_X10_31 (fun v38 => ?_)
  refine jv_iload (jv_dk t_X10_add (k := 85) rfl) rfl ?_
  refine jv_iload (jv_dk t_X10_add (k := 86) rfl) rfl ?_
  refine jv_iastore (jv_dk t_X10_add (k := 87) rfl) (fun h39 => ?_)
  refine jv_aload_n (jv_dk t_X10_add (k := 88) rfl) rfl rfl (Or.inr ⟨_, rfl⟩) ?_
  refine jv_gR (jv_dk t_X10_add (k := 89) rfl) fl_X10_22 (fun v40 => ?_)
  refine jv_iload_n (jv_dk t_X10_add (k := 90) rfl) rfl rfl ?_
  refine jv_dup2 (jv_dk t_X10_add (k := 91) rfl) rfl rfl ?_
  refine jv_iaload (jv_dk t_X10_add (k := 92) rfl) (fun v41 => ?_)
  refine jv_iconst (v := 1) (jv_dk t_X10_add (k := 93) rfl) (by decide) ?_
  refine jv_iadd (jv_dk t_X10_add (k := 94) rfl) ?_
  refine jv_iastore (jv_dk t_X10_add (k := 95) rfl) (fun h42 => ?_)
  refine jv_aload_n (jv_dk t_X10_add (k := 96) rfl) rfl rfl (Or.inr ⟨_, rfl⟩) ?_
  refine jv_gR (jv_dk t_X10_add (k := 97) rfl) fl_X10_22 (fun v43 => ?_)
  refine jv_iload_n (jv_dk t_X10_add (k := 98) rfl) rfl rfl ?_
  refine jv_iaload (jv_dk t_X10_add (k := 99) rfl) (fun v44 => ?_)
  exact jv_iret (ty := .int) (jv_dk t_X10_add (k := 100) rfl) rfl rfl rfl
def f_X10_add (a0 : Nat) (a1 : Int32) (a2 : Int32) (a3 : Int32) (a4 : Int32) (h : jh) : Option (Int32 × jh) :=
  gR h a0 8 0 fun v1 =>
  cV h v1 7 (f_X9_has v1 a1 h) fun v2 h3 =>
  (if v2 = 0 then
  some ((-1), h3)
  else
  gR h3 a0 8 2 fun v5 =>
  aI h3 v5 a1 fun v6 =>
  (if v6 < 3 then
  gR h3 a0 8 2 fun v8 =>
  aI h3 v8 a1 fun v9 =>
  jlp8 (f_X10_add_h42 (fun y28 y29 y30 y31 y32 y33 h27 =>
  f_X10_add_b125 y28 y29 y30 y31 y32 y33 h27)) jfu a0 a1 a2 a3 a4 (a1 * 3) ((a1 * 3) + v9) 0 h3
  else
  some ((-1), h3)))
theorem P_X10_add (X : jx) (a0 : Nat) (a1 : Int32) (a2 : Int32) (a3 : Int32) (a4 : Int32) (h : jh) : jv_P X M_X10_add jeI [.ref (a0), .int (a1), .int (a2), .int (a3), .int (a4)] h (f_X10_add a0 a1 a2 a3 a4 h) := by
  refine jv_P.of (by decide) rfl (by simp [Value.category]) (Nat.le_of_ble_eq_true rfl) ?_
  show jv_O X M_X10_add (h.1, h.2.1) jeI 0 [some (.ref (a0)), some (.int (a1)), some (.int (a2)), some (.int (a3)), some (.int (a4)), none, none, none] [] h (f_X10_add a0 a1 a2 a3 a4 h)
  unfold f_X10_add
  refine jv_aload_n (jv_dk t_X10_add (k := 0) rfl) rfl rfl (Or.inr ⟨_, rfl⟩) ?_
  refine jv_gR (jv_dk t_X10_add (k := 1) rfl) fl_X10_12 (fun v1 => ?_)
  refine jv_iload_n (jv_dk t_X10_add (k := 2) rfl) rfl rfl ?_
  refine jv_callV (en' := jeI) (pv := jpI) (As := [.int (a1)]) (S := []) (jv_dk t_X10_add (k := 3) rfl) (fun _ => rfl) lk_X10_62 me_X9_has mv_X9_has ⟨by decide, by decide⟩ rfl rfl rfl (Nat.le_of_ble_eq_true rfl) (P_X9_has X v1 a1 h) (fun v2 h3 => ?_)
  show jv_O X M_X10_add _ jeI 8 [some (.ref (a0)), some (.int (a1)), some (.int (a2)), some (.int (a3)), some (.int (a4)), none, none, none] [.int (v2)] h3 _
  refine jv_if_eq (tgt := 21) (jv_dk t_X10_add (k := 4) rfl) rfl (fun c4 => ?_) (fun c4 => ?_)
  · refine jv_iconst (v := (-1)) (jv_dk t_X10_add (k := 11) rfl) (by decide) ?_
    exact jv_iret (ty := .int) (jv_dk t_X10_add (k := 12) rfl) rfl rfl rfl
  · show jv_O _ _ _ _ 11 _ _ _ _
    refine jv_aload_n (jv_dk t_X10_add (k := 5) rfl) rfl rfl (Or.inr ⟨_, rfl⟩) ?_
    refine jv_gR (jv_dk t_X10_add (k := 6) rfl) fl_X10_22 (fun v5 => ?_)
    refine jv_iload_n (jv_dk t_X10_add (k := 7) rfl) rfl rfl ?_
    refine jv_iaload (jv_dk t_X10_add (k := 8) rfl) (fun v6 => ?_)
    refine jv_iconst (v := 3) (jv_dk t_X10_add (k := 9) rfl) (by decide) ?_
    refine jv_icmp_lt (tgt := 23) (jv_dk t_X10_add (k := 10) rfl) rfl (fun c7 => ?_) (fun c7 => ?_)
    · refine jv_iload_n (jv_dk t_X10_add (k := 13) rfl) rfl rfl ?_
      refine jv_iconst (v := 3) (jv_dk t_X10_add (k := 14) rfl) (by decide) ?_
      refine jv_imul (jv_dk t_X10_add (k := 15) rfl) ?_
      refine jv_istore (L' := [some (.ref (a0)), some (.int (a1)), some (.int (a2)), some (.int (a3)), some (.int (a4)), some (.int (a1 * 3)), none, none]) (jv_dk t_X10_add (k := 16) rfl) (Nat.le_of_ble_eq_true rfl) rfl ?_
      refine jv_iload (jv_dk t_X10_add (k := 17) rfl) rfl ?_
      refine jv_aload_n (jv_dk t_X10_add (k := 18) rfl) rfl rfl (Or.inr ⟨_, rfl⟩) ?_
      refine jv_gR (jv_dk t_X10_add (k := 19) rfl) fl_X10_22 (fun v8 => ?_)
      refine jv_iload_n (jv_dk t_X10_add (k := 20) rfl) rfl rfl ?_
      refine jv_iaload (jv_dk t_X10_add (k := 21) rfl) (fun v9 => ?_)
      refine jv_iadd (jv_dk t_X10_add (k := 22) rfl) ?_
      refine jv_istore (L' := [some (.ref (a0)), some (.int (a1)), some (.int (a2)), some (.int (a3)), some (.int (a4)), some (.int (a1 * 3)), some (.int ((a1 * 3) + v9)), none]) (jv_dk t_X10_add (k := 23) rfl) (Nat.le_of_ble_eq_true rfl) rfl ?_
      refine jv_iconst (v := 0) (jv_dk t_X10_add (k := 24) rfl) (by decide) ?_
      refine jv_istore (L' := [some (.ref (a0)), some (.int (a1)), some (.int (a2)), some (.int (a3)), some (.int (a4)), some (.int (a1 * 3)), some (.int ((a1 * 3) + v9)), some (.int (0))]) (jv_dk t_X10_add (k := 25) rfl) (Nat.le_of_ble_eq_true rfl) rfl ?_
      refine o_f_X10_add_h42 (fun y28 y29 y30 y31 y32 y33 h27 => ?_) _ _ _ _ _ _ _ _ _ 
      show jv_O X M_X10_add _ jeI 125 [some (.ref (y28)), some (.int (y29)), some (.int (y30)), some (.int (y31)), some (.int (y32)), none, some (.int (y33)), none] [] h27 _
      exact o_f_X10_add_b125 _ _ _ _ _ _ _ 
    · show jv_O _ _ _ _ 21 _ _ _ _
      refine jv_iconst (v := (-1)) (jv_dk t_X10_add (k := 11) rfl) (by decide) ?_
      exact jv_iret (ty := .int) (jv_dk t_X10_add (k := 12) rfl) rfl rfl rfl
