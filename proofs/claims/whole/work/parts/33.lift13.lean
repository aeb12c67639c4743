def t0_X13_endNow : List (Nat × Instr × Nat) := [(0, .aload_n 0, 1), (1, .iload_n 1, 1), (2, .invokevirtual 292, 3), (5, .istore_n 2, 1), (6, .iconst 0, 1), (7, .istore_n 3, 1), (8, .iload_n 3, 1), (9, .bipush 16, 2), (11, .if_icmp .ge 57, 3), (14, .iload_n 2, 1), (15, .iload_n 3, 1), (16, .ishr, 1), (17, .iconst 1, 1), (18, .iand, 1), (19, .ifCond .ne 6, 3), (22, .goto 40, 3), (25, .aload_n 0, 1), (26, .iload_n 3, 1), (27, .invokevirtual 286, 3), (30, .ifCond .eq 21, 3), (33, .aload_n 0, 1), (34, .getfield 37, 3), (37, .iconst 0, 1), (38, .aload_n 0, 1), (39, .iload_n 3, 1), (40, .iconst 2, 1), (41, .invokevirtual 205, 3), (44, .invokestatic 99, 3), (47, .iconst 4, 1), (48, .iadd, 1), (49, .iconst (-1), 1), (50, .iastore, 1), (51, .aload_n 0, 1), (52, .getfield 37, 3), (55, .iload_n 3, 1), (56, .iconst 0, 1), (57, .invokestatic 248, 3), (60, .iconst 0, 1), (61, .iastore, 1), (62, .iinc 3 1, 3), (65, .goto (-57), 3), (68, .iconst 0, 1), (69, .istore_n 3, 1), (70, .iload_n 3, 1), (71, .bipush 16, 2), (73, .if_icmp .ge 62, 3), (76, .aload_n 0, 1), (77, .iload_n 3, 1), (78, .invokevirtual 289, 3), (81, .ifCond .eq 48, 3), (84, .iload_n 2, 1), (85, .aload_n 0, 1), (86, .iload_n 3, 1), (87, .iconst 1, 1), (88, .invokevirtual 205, 3), (91, .ishr, 1), (92, .iconst 1, 1), (93, .iand, 1), (94, .ifCond .eq 35, 3), (97, .iload_n 3, 1), (98, .ifCond .ne 6, 3), (101, .goto 28, 3), (104, .aload_n 0, 1), (105, .getfield 37, 3), (108, .iload_n 3, 1), (109, .iconst 1, 1), (110, .invokestatic 248, 3), (113, .aload_n 0, 1), (114, .aload_n 0, 1), (115, .aload_n 0, 1), (116, .iload_n 3, 1), (117, .iconst 1, 1), (118, .invokevirtual 205, 3), (121, .iconst 2, 1), (122, .invokevirtual 205, 3), (125, .invokevirtual 221, 3), (128, .iastore, 1), (129, .iinc 3 1, 3), (132, .goto (-62), 3), (135, .iload_n 2, 1), (136, .ireturn, 1)]
theorem t_X13_endNow : jv_dec cX13_endNow t0_X13_endNow = true := by decide +kernel
def M_X13_endNow : jm := (yX13_endNow, cX13_endNow, 4, (some .int), 5, 109, [])
theorem lk_X13_292 : Cond.methodLink RX13 292 M_X13_fall.1 ∈ lw_tbl := (jv_at 1676 (by decide +kernel))
set_option maxRecDepth 20000 in
theorem me_X13_fall : jv_me M_X13_fall 1 := ⟨(jv_in7 (List.mem_of_getElem? (i := 79) rfl)), (jv_at 172 (by decide +kernel)), ⟨by decide, by decide⟩, by decide +kernel⟩
theorem mv_X13_fall : jv_mv M_X13_fall := ⟨(jv_at 1678 (by decide +kernel)), (jv_at 136 (by decide +kernel))⟩
def f_X13_endNow_b51 (R8 : Nat → Int32 → Int32 → jh → Option (Int32 × jh)) (K8 : Nat → Int32 → jh → Option (Int32 × jh)) (x0 : Nat) (x2 : Int32) (x3 : Int32) (h : jh) : Option (Int32 × jh) :=
  gR h x0 11 2 fun v8 =>
  bd (f_X13_processAt x3 0 h) fun v9 h10 =>
  sI h10 v8 v9 0 fun h11 =>
  R8 x0 x2 (x3 + 1) h11
theorem o_f_X13_endNow_b51 {X : jx} {b0 : Nat × Nat} {R8 : Nat → Int32 → Int32 → jh → Option (Int32 × jh)} {K8 : Nat → Int32 → jh → Option (Int32 × jh)} (hR8 : ∀ (x0 : Nat) (x2 : Int32) (x3 : Int32) (h : jh), jv_O X M_X13_endNow b0 jeI 8 [some (.ref (x0)), none, some (.int (x2)), some (.int (x3))] [] h (R8 x0 x2 x3 h)) (hK8 : ∀ (x0 : Nat) (x2 : Int32) (h : jh), jv_O X M_X13_endNow b0 jeI 68 [some (.ref (x0)), none, some (.int (x2)), none] [] h (K8 x0 x2 h)) (x0 : Nat) (x2 : Int32) (x3 : Int32) (h : jh) : jv_O X M_X13_endNow b0 jeI 51 [some (.ref (x0)), none, some (.int (x2)), some (.int (x3))] [] h (f_X13_endNow_b51 R8 K8 x0 x2 x3 h) := by
  unfold f_X13_endNow_b51
  refine jv_aload_n (jv_dk t_X13_endNow (k := 32) rfl) rfl rfl (Or.inr ⟨_, rfl⟩) ?_
  refine jv_gR (jv_dk t_X13_endNow (k := 33) rfl) fl_X13_37 (fun v8 => ?_)
  refine jv_iload_n (jv_dk t_X13_endNow (k := 34) rfl) rfl rfl ?_
  refine jv_iconst (v := 0) (jv_dk t_X13_endNow (k := 35) rfl) (by decide) ?_
  refine jv_callS (en' := jeI) (pv := jpI) (As := [.int (x3), .int (0)]) (S := [.ref (v8)]) (jv_dk t_X13_endNow (k := 36) rfl) (fun _ => rfl) (Or.inl lk_X13_248) me_X13_processAt ms_X13_processAt ⟨by decide, by decide⟩ rfl rfl (Nat.le_of_ble_eq_true rfl) (P_X13_processAt X x3 0 h) (fun v9 h10 => ?_)
  show jv_O X M_X13_endNow _ jeI 60 [some (.ref (x0)), none, some (.int (x2)), some (.int (x3))] [.int (v9), .ref (v8)] h10 _
  refine jv_iconst (v := 0) (jv_dk t_X13_endNow (k := 37) rfl) (by decide) ?_
  refine jv_iastore (jv_dk t_X13_endNow (k := 38) rfl) (fun h11 => ?_)
  refine jv_iinc (v := 1) (L' := [some (.ref (x0)), none, some (.int (x2)), some (.int (x3 + 1))]) (jv_dk t_X13_endNow (k := 39) rfl) rfl (by decide) rfl ?_
  refine jv_goto (tgt := 8) (jv_dk t_X13_endNow (k := 40) rfl) rfl ?_
  exact hR8 _ _ _ _ 
def f_X13_endNow_h8 (K8 : Nat → Int32 → jh → Option (Int32 × jh)) (R8 : Nat → Int32 → Int32 → jh → Option (Int32 × jh)) (x0 : Nat) (x2 : Int32) (x3 : Int32) (h : jh) : Option (Int32 × jh) :=
  (if 16 ≤ x3 then
  K8 x0 x2 h
  else
  (if ¬ ((x2 >>> (x3 &&& 31)) &&& 1) = 0 then
  cV h x0 11 (f_X13_isInit x0 x3 h) fun v5 h6 =>
  (if v5 = 0 then
  f_X13_endNow_b51 R8 K8 x0 x2 x3 h6
  else
  gR h6 x0 11 2 fun v12 =>
  cV h6 x0 11 (f_X13_of x0 x3 2 h6) fun v13 h14 =>
  bd (f_X13_spaceAt 0 v13 h14) fun v15 h16 =>
  sI h16 v12 (v15 + 4) (-1) fun h17 =>
  f_X13_endNow_b51 R8 K8 x0 x2 x3 h17)
  else
  R8 x0 x2 (x3 + 1) h))
theorem o_f_X13_endNow_h8 {X : jx} {b0 : Nat × Nat} {K8 : Nat → Int32 → jh → Option (Int32 × jh)} (hK8 : ∀ (x0 : Nat) (x2 : Int32) (h : jh), jv_O X M_X13_endNow b0 jeI 68 [some (.ref (x0)), none, some (.int (x2)), none] [] h (K8 x0 x2 h)) : ∀ (x0 : Nat) (x2 : Int32) (x3 : Int32) (h : jh), jv_O X M_X13_endNow b0 jeI 8 [some (.ref (x0)), none, some (.int (x2)), some (.int (x3))] [] h (jlp3 (f_X13_endNow_h8 K8) jfu x0 x2 x3 h) := by
  refine jlp3_ok (P := fun x0 x2 x3 h o => jv_O X M_X13_endNow b0 jeI 8 [some (.ref (x0)), none, some (.int (x2)), some (.int (x3))] [] h o) (fun R8 hR8 => ?_) (fun _ _ _ _  => jv_none rfl) jfu
  intro x0 x2 x3 h
  unfold f_X13_endNow_h8
  refine jv_iload_n (jv_dk t_X13_endNow (k := 6) rfl) rfl rfl ?_
  refine jv_bipush (v := 16) (jv_dk t_X13_endNow (k := 7) rfl) (by decide) ?_
  refine jv_icmp_ge (tgt := 68) (jv_dk t_X13_endNow (k := 8) rfl) rfl (fun c3 => ?_) (fun c3 => ?_)
  · refine jv_le_row (jv_le_s (jv_le_n (jv_le_s (jv_le_n (jv_le_nil))))) ?_
    exact hK8 _ _ _ 
  · show jv_O _ _ _ _ 14 _ _ _ _
    refine jv_iload_n (jv_dk t_X13_endNow (k := 9) rfl) rfl rfl ?_
    refine jv_iload_n (jv_dk t_X13_endNow (k := 10) rfl) rfl rfl ?_
    refine jv_ishr (jv_dk t_X13_endNow (k := 11) rfl) ?_
    refine jv_iconst (v := 1) (jv_dk t_X13_endNow (k := 12) rfl) (by decide) ?_
    refine jv_iand (jv_dk t_X13_endNow (k := 13) rfl) ?_
    refine jv_if_ne (tgt := 25) (jv_dk t_X13_endNow (k := 14) rfl) rfl (fun c4 => ?_) (fun c4 => ?_)
    · refine jv_aload_n (jv_dk t_X13_endNow (k := 16) rfl) rfl rfl (Or.inr ⟨_, rfl⟩) ?_
      refine jv_iload_n (jv_dk t_X13_endNow (k := 17) rfl) rfl rfl ?_
      refine jv_callV (en' := jeI) (pv := jpI) (As := [.int (x3)]) (S := []) (jv_dk t_X13_endNow (k := 18) rfl) (fun _ => rfl) (Or.inl lk_X13_286) me_X13_isInit mv_X13_isInit ⟨by decide, by decide⟩ rfl rfl rfl (Nat.le_of_ble_eq_true rfl) (P_X13_isInit X x0 x3 h) (fun v5 h6 => ?_)
      show jv_O X M_X13_endNow _ jeI 30 [some (.ref (x0)), none, some (.int (x2)), some (.int (x3))] [.int (v5)] h6 _
      refine jv_if_eq (tgt := 51) (jv_dk t_X13_endNow (k := 19) rfl) rfl (fun c7 => ?_) (fun c7 => ?_)
      · exact o_f_X13_endNow_b51 hR8 hK8 _ _ _ _ 
      · show jv_O _ _ _ _ 33 _ _ _ _
        refine jv_aload_n (jv_dk t_X13_endNow (k := 20) rfl) rfl rfl (Or.inr ⟨_, rfl⟩) ?_
        refine jv_gR (jv_dk t_X13_endNow (k := 21) rfl) fl_X13_37 (fun v12 => ?_)
        refine jv_iconst (v := 0) (jv_dk t_X13_endNow (k := 22) rfl) (by decide) ?_
        refine jv_aload_n (jv_dk t_X13_endNow (k := 23) rfl) rfl rfl (Or.inr ⟨_, rfl⟩) ?_
        refine jv_iload_n (jv_dk t_X13_endNow (k := 24) rfl) rfl rfl ?_
        refine jv_iconst (v := 2) (jv_dk t_X13_endNow (k := 25) rfl) (by decide) ?_
        refine jv_callV (en' := jeI) (pv := jpI) (As := [.int (x3), .int (2)]) (S := [.int (0), .ref (v12)]) (jv_dk t_X13_endNow (k := 26) rfl) (fun _ => rfl) (Or.inl lk_X13_205) me_X13_of mv_X13_of ⟨by decide, by decide⟩ rfl rfl rfl (Nat.le_of_ble_eq_true rfl) (P_X13_of X x0 x3 2 h6) (fun v13 h14 => ?_)
        show jv_O X M_X13_endNow _ jeI 44 [some (.ref (x0)), none, some (.int (x2)), some (.int (x3))] [.int (v13), .int (0), .ref (v12)] h14 _
        refine jv_callS (en' := jeI) (pv := jpI) (As := [.int (0), .int (v13)]) (S := [.ref (v12)]) (jv_dk t_X13_endNow (k := 27) rfl) (fun _ => rfl) (Or.inl lk_X13_99) me_X13_spaceAt ms_X13_spaceAt ⟨by decide, by decide⟩ rfl rfl (Nat.le_of_ble_eq_true rfl) (P_X13_spaceAt X 0 v13 h14) (fun v15 h16 => ?_)
        show jv_O X M_X13_endNow _ jeI 47 [some (.ref (x0)), none, some (.int (x2)), some (.int (x3))] [.int (v15), .ref (v12)] h16 _
        refine jv_iconst (v := 4) (jv_dk t_X13_endNow (k := 28) rfl) (by decide) ?_
        refine jv_iadd (jv_dk t_X13_endNow (k := 29) rfl) ?_
        refine jv_iconst (v := (-1)) (jv_dk t_X13_endNow (k := 30) rfl) (by decide) ?_
        refine jv_iastore (jv_dk t_X13_endNow (k := 31) rfl) (fun h17 => ?_)
        exact o_f_X13_endNow_b51 hR8 hK8 _ _ _ _ 
    · show jv_O _ _ _ _ 22 _ _ _ _
      refine jv_goto (tgt := 62) (jv_dk t_X13_endNow (k := 15) rfl) rfl ?_
      refine jv_iinc (v := 1) (L' := [some (.ref (x0)), none, some (.int (x2)), some (.int (x3 + 1))]) (jv_dk t_X13_endNow (k := 39) rfl) rfl (by decide) rfl ?_
      refine jv_goto (tgt := 8) (jv_dk t_X13_endNow (k := 40) rfl) rfl ?_
      exact hR8 _ _ _ _ 
def f_X13_endNow_h70 (K70 : Int32 → jh → Option (Int32 × jh)) (R70 : Nat → Int32 → Int32 → jh → Option (Int32 × jh)) (x0 : Nat) (x2 : Int32) (x3 : Int32) (h : jh) : Option (Int32 × jh) :=
  (if 16 ≤ x3 then
  K70 x2 h
  else
  cV h x0 11 (f_X13_isThere x0 x3 h) fun v22 h23 =>
  (if v22 = 0 then
  R70 x0 x2 (x3 + 1) h23
  else
  cV h23 x0 11 (f_X13_of x0 x3 1 h23) fun v25 h26 =>
  (if ((x2 >>> (v25 &&& 31)) &&& 1) = 0 then
  R70 x0 x2 (x3 + 1) h26
  else
  (if ¬ x3 = 0 then
  gR h26 x0 11 2 fun v29 =>
  bd (f_X13_processAt x3 1 h26) fun v30 h31 =>
  cV h31 x0 11 (f_X13_of x0 x3 1 h31) fun v32 h33 =>
  cV h33 x0 11 (f_X13_of x0 v32 2 h33) fun v34 h35 =>
  cV h35 x0 11 (f_X13_initOf x0 v34 h35) fun v36 h37 =>
  sI h37 v29 v30 v36 fun h38 =>
  R70 x0 x2 (x3 + 1) h38
  else
  R70 x0 x2 (x3 + 1) h26))))
theorem o_f_X13_endNow_h70 {X : jx} {b0 : Nat × Nat} {K70 : Int32 → jh → Option (Int32 × jh)} (hK70 : ∀ (x2 : Int32) (h : jh), jv_O X M_X13_endNow b0 jeI 135 [none, none, some (.int (x2)), none] [] h (K70 x2 h)) : ∀ (x0 : Nat) (x2 : Int32) (x3 : Int32) (h : jh), jv_O X M_X13_endNow b0 jeI 70 [some (.ref (x0)), none, some (.int (x2)), some (.int (x3))] [] h (jlp3 (f_X13_endNow_h70 K70) jfu x0 x2 x3 h) := by
  refine jlp3_ok (P := fun x0 x2 x3 h o => jv_O X M_X13_endNow b0 jeI 70 [some (.ref (x0)), none, some (.int (x2)), some (.int (x3))] [] h o) (fun R70 hR70 => ?_) (fun _ _ _ _  => jv_none rfl) jfu
  intro x0 x2 x3 h
  unfold f_X13_endNow_h70
  refine jv_iload_n (jv_dk t_X13_endNow (k := 43) rfl) rfl rfl ?_
  refine jv_bipush (v := 16) (jv_dk t_X13_endNow (k := 44) rfl) (by decide) ?_
  refine jv_icmp_ge (tgt := 135) (jv_dk t_X13_endNow (k := 45) rfl) rfl (fun c21 => ?_) (fun c21 => ?_)
  · refine jv_le_row (jv_le_n (jv_le_n (jv_le_s (jv_le_n (jv_le_nil))))) ?_
    exact hK70 _ _ 
  · show jv_O _ _ _ _ 76 _ _ _ _
    refine jv_aload_n (jv_dk t_X13_endNow (k := 46) rfl) rfl rfl (Or.inr ⟨_, rfl⟩) ?_
    refine jv_iload_n (jv_dk t_X13_endNow (k := 47) rfl) rfl rfl ?_
    refine jv_callV (en' := jeI) (pv := jpI) (As := [.int (x3)]) (S := []) (jv_dk t_X13_endNow (k := 48) rfl) (fun _ => rfl) (Or.inl lk_X13_289) me_X13_isThere mv_X13_isThere ⟨by decide, by decide⟩ rfl rfl rfl (Nat.le_of_ble_eq_true rfl) (P_X13_isThere X x0 x3 h) (fun v22 h23 => ?_)
    show jv_O X M_X13_endNow _ jeI 81 [some (.ref (x0)), none, some (.int (x2)), some (.int (x3))] [.int (v22)] h23 _
    refine jv_if_eq (tgt := 129) (jv_dk t_X13_endNow (k := 49) rfl) rfl (fun c24 => ?_) (fun c24 => ?_)
    · refine jv_iinc (v := 1) (L' := [some (.ref (x0)), none, some (.int (x2)), some (.int (x3 + 1))]) (jv_dk t_X13_endNow (k := 77) rfl) rfl (by decide) rfl ?_
      refine jv_goto (tgt := 70) (jv_dk t_X13_endNow (k := 78) rfl) rfl ?_
      exact hR70 _ _ _ _ 
    · show jv_O _ _ _ _ 84 _ _ _ _
      refine jv_iload_n (jv_dk t_X13_endNow (k := 50) rfl) rfl rfl ?_
      refine jv_aload_n (jv_dk t_X13_endNow (k := 51) rfl) rfl rfl (Or.inr ⟨_, rfl⟩) ?_
      refine jv_iload_n (jv_dk t_X13_endNow (k := 52) rfl) rfl rfl ?_
      refine jv_iconst (v := 1) (jv_dk t_X13_endNow (k := 53) rfl) (by decide) ?_
      refine jv_callV (en' := jeI) (pv := jpI) (As := [.int (x3), .int (1)]) (S := [.int (x2)]) (jv_dk t_X13_endNow (k := 54) rfl) (fun _ => rfl) (Or.inl lk_X13_205) me_X13_of mv_X13_of ⟨by decide, by decide⟩ rfl rfl rfl (Nat.le_of_ble_eq_true rfl) (P_X13_of X x0 x3 1 h23) (fun v25 h26 => ?_)
      show jv_O X M_X13_endNow _ jeI 91 [some (.ref (x0)), none, some (.int (x2)), some (.int (x3))] [.int (v25), .int (x2)] h26 _
      refine jv_ishr (jv_dk t_X13_endNow (k := 55) rfl) ?_
      refine jv_iconst (v := 1) (jv_dk t_X13_endNow (k := 56) rfl) (by decide) ?_
      refine jv_iand (jv_dk t_X13_endNow (k := 57) rfl) ?_
      refine jv_if_eq (tgt := 129) (jv_dk t_X13_endNow (k := 58) rfl) rfl (fun c27 => ?_) (fun c27 => ?_)
      · refine jv_iinc (v := 1) (L' := [some (.ref (x0)), none, some (.int (x2)), some (.int (x3 + 1))]) (jv_dk t_X13_endNow (k := 77) rfl) rfl (by decide) rfl ?_
        refine jv_goto (tgt := 70) (jv_dk t_X13_endNow (k := 78) rfl) rfl ?_
        exact hR70 _ _ _ _ 
      · show jv_O _ _ _ _ 97 _ _ _ _
        refine jv_iload_n (jv_dk t_X13_endNow (k := 59) rfl) rfl rfl ?_
        refine jv_if_ne (tgt := 104) (jv_dk t_X13_endNow (k := 60) rfl) rfl (fun c28 => ?_) (fun c28 => ?_)
        · refine jv_aload_n (jv_dk t_X13_endNow (k := 62) rfl) rfl rfl (Or.inr ⟨_, rfl⟩) ?_
          refine jv_gR (jv_dk t_X13_endNow (k := 63) rfl) fl_X13_37 (fun v29 => ?_)
          refine jv_iload_n (jv_dk t_X13_endNow (k := 64) rfl) rfl rfl ?_
          refine jv_iconst (v := 1) (jv_dk t_X13_endNow (k := 65) rfl) (by decide) ?_
          refine jv_callS (en' := jeI) (pv := jpI) (As := [.int (x3), .int (1)]) (S := [.ref (v29)]) (jv_dk t_X13_endNow (k := 66) rfl) (fun _ => rfl) (Or.inl lk_X13_248) me_X13_processAt ms_X13_processAt ⟨by decide, by decide⟩ rfl rfl (Nat.le_of_ble_eq_true rfl) (P_X13_processAt X x3 1 h26) (fun v30 h31 => ?_)
          show jv_O X M_X13_endNow _ jeI 113 [some (.ref (x0)), none, some (.int (x2)), some (.int (x3))] [.int (v30), .ref (v29)] h31 _
          refine jv_aload_n (jv_dk t_X13_endNow (k := 67) rfl) rfl rfl (Or.inr ⟨_, rfl⟩) ?_
          refine jv_aload_n (jv_dk t_X13_endNow (k := 68) rfl) rfl rfl (Or.inr ⟨_, rfl⟩) ?_
          refine jv_aload_n (jv_dk t_X13_endNow (k := 69) rfl) rfl rfl (Or.inr ⟨_, rfl⟩) ?_
          refine jv_iload_n (jv_dk t_X13_endNow (k := 70) rfl) rfl rfl ?_
          refine jv_iconst (v := 1) (jv_dk t_X13_endNow (k := 71) rfl) (by decide) ?_
          refine jv_callV (en' := jeI) (pv := jpI) (As := [.int (x3), .int (1)]) (S := [.ref (x0), .ref (x0), .int (v30), .ref (v29)]) (jv_dk t_X13_endNow (k := 72) rfl) (fun _ => rfl) (Or.inl lk_X13_205) me_X13_of mv_X13_of ⟨by decide, by decide⟩ rfl rfl rfl (Nat.le_of_ble_eq_true rfl) (P_X13_of X x0 x3 1 h31) (fun v32 h33 => ?_)
          show jv_O X M_X13_endNow _ jeI 121 [some (.ref (x0)), none, some (.int (x2)), some (.int (x3))] [.int (v32), .ref (x0), .ref (x0), .int (v30), .ref (v29)] h33 _
          refine jv_iconst (v := 2) (jv_dk t_X13_endNow (k := 73) rfl) (by decide) ?_
          refine jv_callV (en' := jeI) (pv := jpI) (As := [.int (v32), .int (2)]) (S := [.ref (x0), .int (v30), .ref (v29)]) (jv_dk t_X13_endNow (k := 74) rfl) (fun _ => rfl) (Or.inl lk_X13_205) me_X13_of mv_X13_of ⟨by decide, by decide⟩ rfl rfl rfl (Nat.le_of_ble_eq_true rfl) (P_X13_of X x0 v32 2 h33) (fun v34 h35 => ?_)
          show jv_O X M_X13_endNow _ jeI 125 [some (.ref (x0)), none, some (.int (x2)), some (.int (x3))] [.int (v34), .ref (x0), .int (v30), .ref (v29)] h35 _
          refine jv_callV (en' := jeI) (pv := jpI) (As := [.int (v34)]) (S := [.int (v30), .ref (v29)]) (jv_dk t_X13_endNow (k := 75) rfl) (fun _ => rfl) (Or.inl lk_X13_221) me_X13_initOf mv_X13_initOf ⟨by decide, by decide⟩ rfl rfl rfl (Nat.le_of_ble_eq_true rfl) (P_X13_initOf X x0 v34 h35) (fun v36 h37 => ?_)
          show jv_O X M_X13_endNow _ jeI 128 [some (.ref (x0)), none, some (.int (x2)), some (.int (x3))] [.int (v36), .int (v30), .ref (v29)] h37 _
          refine jv_iastore (jv_dk t_X13_endNow (k := 76) rfl) (fun h38 => ?_)
          refine jv_iinc (v := 1) (L' := [some (.ref (x0)), none, some (.int (x2)), some (.int (x3 + 1))]) (jv_dk t_X13_endNow (k := 77) rfl) rfl (by decide) rfl ?_
          refine jv_goto (tgt := 70) (jv_dk t_X13_endNow (k := 78) rfl) rfl ?_
          exact hR70 _ _ _ _ 
        · show jv_O _ _ _ _ 101 _ _ _ _
          refine jv_goto (tgt := 129) (jv_dk t_X13_endNow (k := 61) rfl) rfl ?_
          refine jv_iinc (v := 1) (L' := [some (.ref (x0)), none, some (.int (x2)), some (.int (x3 + 1))]) (jv_dk t_X13_endNow (k := 77) rfl) rfl (by decide) rfl ?_
          refine jv_goto (tgt := 70) (jv_dk t_X13_endNow (k := 78) rfl) rfl ?_
          exact hR70 _ _ _ _ 
def f_X13_endNow (a0 : Nat) (a1 : Int32) (h : jh) : Option (Int32 × jh) :=
  cV h a0 11 (f_X13_fall a0 a1 h) fun v1 h2 =>
  jlp3 (f_X13_endNow_h8 (fun y19 y20 h18 =>
  jlp3 (f_X13_endNow_h70 (fun y40 h39 =>
  some (y40, h39))) jfu y19 y20 0 h18)) jfu a0 v1 0 h2
theorem P_X13_endNow (X : jx) (a0 : Nat) (a1 : Int32) (h : jh) : jv_P X M_X13_endNow jeI [.ref (a0), .int (a1)] h (f_X13_endNow a0 a1 h) := by
  refine jv_P.of (by decide) rfl (by simp [Value.category]) (Nat.le_of_ble_eq_true rfl) ?_
  show jv_O X M_X13_endNow (h.1, h.2.1) jeI 0 [some (.ref (a0)), some (.int (a1)), none, none] [] h (f_X13_endNow a0 a1 h)
  unfold f_X13_endNow
  refine jv_aload_n (jv_dk t_X13_endNow (k := 0) rfl) rfl rfl (Or.inr ⟨_, rfl⟩) ?_
  refine jv_iload_n (jv_dk t_X13_endNow (k := 1) rfl) rfl rfl ?_
  refine jv_callV (en' := jeI) (pv := jpI) (As := [.int (a1)]) (S := []) (jv_dk t_X13_endNow (k := 2) rfl) (fun _ => rfl) (Or.inl lk_X13_292) me_X13_fall mv_X13_fall ⟨by decide, by decide⟩ rfl rfl rfl (Nat.le_of_ble_eq_true rfl) (P_X13_fall X a0 a1 h) (fun v1 h2 => ?_)
  show jv_O X M_X13_endNow _ jeI 5 [some (.ref (a0)), some (.int (a1)), none, none] [.int (v1)] h2 _
  refine jv_istore_n (L' := [some (.ref (a0)), some (.int (a1)), some (.int (v1)), none]) (jv_dk t_X13_endNow (k := 3) rfl) rfl (Nat.le_of_ble_eq_true rfl) rfl ?_
  refine jv_iconst (v := 0) (jv_dk t_X13_endNow (k := 4) rfl) (by decide) ?_
  refine jv_istore_n (L' := [some (.ref (a0)), some (.int (a1)), some (.int (v1)), some (.int (0))]) (jv_dk t_X13_endNow (k := 5) rfl) rfl (Nat.le_of_ble_eq_true rfl) rfl ?_
  refine jv_le_row (jv_le_s (jv_le_n (jv_le_s (jv_le_s (jv_le_nil))))) ?_
  refine o_f_X13_endNow_h8 (fun y19 y20 h18 => ?_) _ _ _ _ 
  show jv_O X M_X13_endNow _ jeI 68 [some (.ref (y19)), none, some (.int (y20)), none] [] h18 _
  refine jv_iconst (v := 0) (jv_dk t_X13_endNow (k := 41) rfl) (by decide) ?_
  refine jv_istore_n (L' := [some (.ref (y19)), none, some (.int (y20)), some (.int (0))]) (jv_dk t_X13_endNow (k := 42) rfl) rfl (Nat.le_of_ble_eq_true rfl) rfl ?_
  refine o_f_X13_endNow_h70 (fun y40 h39 => ?_) _ _ _ _ 
  show jv_O X M_X13_endNow _ jeI 135 [none, none, some (.int (y40)), none] [] h39 _
  refine jv_iload_n (jv_dk t_X13_endNow (k := 79) rfl) rfl rfl ?_
  exact jv_iret (ty := .int) (jv_dk t_X13_endNow (k := 80) rfl) rfl rfl rfl
def t0_X13_canKill : List (Nat × Instr × Nat) := [(0, .iload_n 2, 1), (1, .ifCond .eq 61, 3), (4, .aload_n 0, 1), (5, .iload_n 1, 1), (6, .iload_n 2, 1), (7, .invokevirtual 277, 3), (10, .ifCond .eq 52, 3), (13, .aload_n 0, 1), (14, .iload_n 1, 1), (15, .bipush 6, 2), (17, .invokevirtual 205, 3), (20, .aload_n 0, 1), (21, .iload_n 2, 1), (22, .bipush 6, 2), (24, .invokevirtual 205, 3), (27, .if_icmp .eq 17, 3), (30, .aload_n 0, 1), (31, .iload_n 1, 1), (32, .aload_n 0, 1), (33, .iload_n 2, 1), (34, .iconst 3, 1), (35, .invokevirtual 205, 3), (38, .invokevirtual 267, 3), (41, .ifCond .eq 21, 3), (44, .aload_n 0, 1), (45, .aload_n 0, 1), (46, .iload_n 1, 1), (47, .iconst 2, 1), (48, .invokevirtual 205, 3), (51, .invokevirtual 221, 3), (54, .iload_n 2, 1), (55, .if_icmp .eq 7, 3), (58, .iconst 1, 1), (59, .goto 4, 3), (62, .iconst 0, 1), (63, .ireturn, 1)]
theorem t_X13_canKill : jv_dec cX13_canKill t0_X13_canKill = true := by decide +kernel
def M_X13_canKill : jm := (yX13_canKill, cX13_canKill, 3, (some .boolean), 4, 91, [])
def f_X13_canKill_b44 (x0 : Nat) (x1 : Int32) (x2 : Int32) (h : jh) : Option (Int32 × jh) :=
  cV h x0 11 (f_X13_of x0 x1 2 h) fun v10 h11 =>
  cV h11 x0 11 (f_X13_initOf x0 v10 h11) fun v12 h13 =>
  (if v12 = x2 then
  some (0, h13)
  else
  some (1, h13))
theorem o_f_X13_canKill_b44 {X : jx} {b0 : Nat × Nat} (x0 : Nat) (x1 : Int32) (x2 : Int32) (h : jh) : jv_O X M_X13_canKill b0 jeI 44 [some (.ref (x0)), some (.int (x1)), some (.int (x2))] [] h (f_X13_canKill_b44 x0 x1 x2 h) := by
  unfold f_X13_canKill_b44
  refine jv_aload_n (jv_dk t_X13_canKill (k := 24) rfl) rfl rfl (Or.inr ⟨_, rfl⟩) ?_
  refine jv_aload_n (jv_dk t_X13_canKill (k := 25) rfl) rfl rfl (Or.inr ⟨_, rfl⟩) ?_
  refine jv_iload_n (jv_dk t_X13_canKill (k := 26) rfl) rfl rfl ?_
  refine jv_iconst (v := 2) (jv_dk t_X13_canKill (k := 27) rfl) (by decide) ?_
  refine jv_callV (en' := jeI) (pv := jpI) (As := [.int (x1), .int (2)]) (S := [.ref (x0)]) (jv_dk t_X13_canKill (k := 28) rfl) (fun _ => rfl) (Or.inl lk_X13_205) me_X13_of mv_X13_of ⟨by decide, by decide⟩ rfl rfl rfl (Nat.le_of_ble_eq_true rfl) (P_X13_of X x0 x1 2 h) (fun v10 h11 => ?_)
  show jv_O X M_X13_canKill _ jeI 51 [some (.ref (x0)), some (.int (x1)), some (.int (x2))] [.int (v10), .ref (x0)] h11 _
  refine jv_callV (en' := jeI) (pv := jpI) (As := [.int (v10)]) (S := []) (jv_dk t_X13_canKill (k := 29) rfl) (fun _ => rfl) (Or.inl lk_X13_221) me_X13_initOf mv_X13_initOf ⟨by decide, by decide⟩ rfl rfl rfl (Nat.le_of_ble_eq_true rfl) (P_X13_initOf X x0 v10 h11) (fun v12 h13 => ?_)
  show jv_O X M_X13_canKill _ jeI 54 [some (.ref (x0)), some (.int (x1)), some (.int (x2))] [.int (v12)] h13 _
  refine jv_iload_n (jv_dk t_X13_canKill (k := 30) rfl) rfl rfl ?_
  refine jv_icmp_eq (tgt := 62) (jv_dk t_X13_canKill (k := 31) rfl) rfl (fun c14 => ?_) (fun c14 => ?_)
  · refine jv_iconst (v := 0) (jv_dk t_X13_canKill (k := 34) rfl) (by decide) ?_
    exact jv_iret (ty := .boolean) (jv_dk t_X13_canKill (k := 35) rfl) rfl rfl rfl
  · show jv_O _ _ _ _ 58 _ _ _ _
    refine jv_iconst (v := 1) (jv_dk t_X13_canKill (k := 32) rfl) (by decide) ?_
    refine jv_goto (tgt := 63) (jv_dk t_X13_canKill (k := 33) rfl) rfl ?_
    exact jv_iret (ty := .boolean) (jv_dk t_X13_canKill (k := 35) rfl) rfl rfl rfl
def f_X13_canKill (a0 : Nat) (a1 : Int32) (a2 : Int32) (h : jh) : Option (Int32 × jh) :=
  (if a2 = 0 then
  some (0, h)
  else
  cV h a0 11 (f_X13_sees a0 a1 a2 h) fun v2 h3 =>
  (if v2 = 0 then
  some (0, h3)
  else
  cV h3 a0 11 (f_X13_of a0 a1 6 h3) fun v5 h6 =>
  cV h6 a0 11 (f_X13_of a0 a2 6 h6) fun v7 h8 =>
  (if v5 = v7 then
  f_X13_canKill_b44 a0 a1 a2 h8
  else
  cV h8 a0 11 (f_X13_of a0 a2 3 h8) fun v15 h16 =>
  cV h16 a0 11 (f_X13_isOver a0 a1 v15 h16) fun v17 h18 =>
  (if v17 = 0 then
  some (0, h18)
  else
  f_X13_canKill_b44 a0 a1 a2 h18))))
theorem P_X13_canKill (X : jx) (a0 : Nat) (a1 : Int32) (a2 : Int32) (h : jh) : jv_P X M_X13_canKill jeI [.ref (a0), .int (a1), .int (a2)] h (f_X13_canKill a0 a1 a2 h) := by
  refine jv_P.of (by decide) rfl (by simp [Value.category]) (Nat.le_of_ble_eq_true rfl) ?_
  show jv_O X M_X13_canKill (h.1, h.2.1) jeI 0 [some (.ref (a0)), some (.int (a1)), some (.int (a2))] [] h (f_X13_canKill a0 a1 a2 h)
  unfold f_X13_canKill
  refine jv_iload_n (jv_dk t_X13_canKill (k := 0) rfl) rfl rfl ?_
  refine jv_if_eq (tgt := 62) (jv_dk t_X13_canKill (k := 1) rfl) rfl (fun c1 => ?_) (fun c1 => ?_)
  · refine jv_iconst (v := 0) (jv_dk t_X13_canKill (k := 34) rfl) (by decide) ?_
    exact jv_iret (ty := .boolean) (jv_dk t_X13_canKill (k := 35) rfl) rfl rfl rfl
  · show jv_O _ _ _ _ 4 _ _ _ _
    refine jv_aload_n (jv_dk t_X13_canKill (k := 2) rfl) rfl rfl (Or.inr ⟨_, rfl⟩) ?_
    refine jv_iload_n (jv_dk t_X13_canKill (k := 3) rfl) rfl rfl ?_
    refine jv_iload_n (jv_dk t_X13_canKill (k := 4) rfl) rfl rfl ?_
    refine jv_callV (en' := jeI) (pv := jpI) (As := [.int (a1), .int (a2)]) (S := []) (jv_dk t_X13_canKill (k := 5) rfl) (fun _ => rfl) (Or.inl lk_X13_277) me_X13_sees mv_X13_sees ⟨by decide, by decide⟩ rfl rfl rfl (Nat.le_of_ble_eq_true rfl) (P_X13_sees X a0 a1 a2 h) (fun v2 h3 => ?_)
    show jv_O X M_X13_canKill _ jeI 10 [some (.ref (a0)), some (.int (a1)), some (.int (a2))] [.int (v2)] h3 _
    refine jv_if_eq (tgt := 62) (jv_dk t_X13_canKill (k := 6) rfl) rfl (fun c4 => ?_) (fun c4 => ?_)
    · refine jv_iconst (v := 0) (jv_dk t_X13_canKill (k := 34) rfl) (by decide) ?_
      exact jv_iret (ty := .boolean) (jv_dk t_X13_canKill (k := 35) rfl) rfl rfl rfl
    · show jv_O _ _ _ _ 13 _ _ _ _
      refine jv_aload_n (jv_dk t_X13_canKill (k := 7) rfl) rfl rfl (Or.inr ⟨_, rfl⟩) ?_
      refine jv_iload_n (jv_dk t_X13_canKill (k := 8) rfl) rfl rfl ?_
      refine jv_bipush (v := 6) (jv_dk t_X13_canKill (k := 9) rfl) (by decide) ?_
      refine jv_callV (en' := jeI) (pv := jpI) (As := [.int (a1), .int (6)]) (S := []) (jv_dk t_X13_canKill (k := 10) rfl) (fun _ => rfl) (Or.inl lk_X13_205) me_X13_of mv_X13_of ⟨by decide, by decide⟩ rfl rfl rfl (Nat.le_of_ble_eq_true rfl) (P_X13_of X a0 a1 6 h3) (fun v5 h6 => ?_)
      show jv_O X M_X13_canKill _ jeI 20 [some (.ref (a0)), some (.int (a1)), some (.int (a2))] [.int (v5)] h6 _
      refine jv_aload_n (jv_dk t_X13_canKill (k := 11) rfl) rfl rfl (Or.inr ⟨_, rfl⟩) ?_
      refine jv_iload_n (jv_dk t_X13_canKill (k := 12) rfl) rfl rfl ?_
      refine jv_bipush (v := 6) (jv_dk t_X13_canKill (k := 13) rfl) (by decide) ?_
      refine jv_callV (en' := jeI) (pv := jpI) (As := [.int (a2), .int (6)]) (S := [.int (v5)]) (jv_dk t_X13_canKill (k := 14) rfl) (fun _ => rfl) (Or.inl lk_X13_205) me_X13_of mv_X13_of ⟨by decide, by decide⟩ rfl rfl rfl (Nat.le_of_ble_eq_true rfl) (P_X13_of X a0 a2 6 h6) (fun v7 h8 => ?_)
      show jv_O X M_X13_canKill _ jeI 27 [some (.ref (a0)), some (.int (a1)), some (.int (a2))] [.int (v7), .int (v5)] h8 _
      refine jv_icmp_eq (tgt := 44) (jv_dk t_X13_canKill (k := 15) rfl) rfl (fun c9 => ?_) (fun c9 => ?_)
      · exact o_f_X13_canKill_b44 _ _ _ _ 
      · show jv_O _ _ _ _ 30 _ _ _ _
        refine jv_aload_n (jv_dk t_X13_canKill (k := 16) rfl) rfl rfl (Or.inr ⟨_, rfl⟩) ?_
        refine jv_iload_n (jv_dk t_X13_canKill (k := 17) rfl) rfl rfl ?_
        refine jv_aload_n (jv_dk t_X13_canKill (k := 18) rfl) rfl rfl (Or.inr ⟨_, rfl⟩) ?_
        refine jv_iload_n (jv_dk t_X13_canKill (k := 19) rfl) rfl rfl ?_
        refine jv_iconst (v := 3) (jv_dk t_X13_canKill (k := 20) rfl) (by decide) ?_
        refine jv_callV (en' := jeI) (pv := jpI) (As := [.int (a2), .int (3)]) (S := [.int (a1), .ref (a0)]) (jv_dk t_X13_canKill (k := 21) rfl) (fun _ => rfl) (Or.inl lk_X13_205) me_X13_of mv_X13_of ⟨by decide, by decide⟩ rfl rfl rfl (Nat.le_of_ble_eq_true rfl) (P_X13_of X a0 a2 3 h8) (fun v15 h16 => ?_)
        show jv_O X M_X13_canKill _ jeI 38 [some (.ref (a0)), some (.int (a1)), some (.int (a2))] [.int (v15), .int (a1), .ref (a0)] h16 _
        refine jv_callV (en' := jeI) (pv := jpI) (As := [.int (a1), .int (v15)]) (S := []) (jv_dk t_X13_canKill (k := 22) rfl) (fun _ => rfl) (Or.inl lk_X13_267) me_X13_isOver mv_X13_isOver ⟨by decide, by decide⟩ rfl rfl rfl (Nat.le_of_ble_eq_true rfl) (P_X13_isOver X a0 a1 v15 h16) (fun v17 h18 => ?_)
        show jv_O X M_X13_canKill _ jeI 41 [some (.ref (a0)), some (.int (a1)), some (.int (a2))] [.int (v17)] h18 _
        refine jv_if_eq (tgt := 62) (jv_dk t_X13_canKill (k := 23) rfl) rfl (fun c19 => ?_) (fun c19 => ?_)
        · refine jv_iconst (v := 0) (jv_dk t_X13_canKill (k := 34) rfl) (by decide) ?_
          exact jv_iret (ty := .boolean) (jv_dk t_X13_canKill (k := 35) rfl) rfl rfl rfl
        · show jv_O _ _ _ _ 44 _ _ _ _
          exact o_f_X13_canKill_b44 _ _ _ _ 
def t0_X13_shareNow : List (Nat × Instr × Nat) := [(0, .aload_n 0, 1), (1, .iload_n 1, 1), (2, .iconst 4, 1), (3, .invokevirtual 205, 3), (6, .istore_n 2, 1), (7, .aload_n 0, 1), (8, .iload_n 1, 1), (9, .aload_n 0, 1), (10, .iconst 2, 1), (11, .iload_n 2, 1), (12, .iconst 2, 1), (13, .invokevirtual 217, 3), (16, .invokevirtual 267, 3), (19, .ifCond .ne 5, 3), (22, .iconst (-1), 1), (23, .ireturn, 1), (24, .aload_n 0, 1), (25, .getfield 37, 3), (28, .iconst 2, 1), (29, .iload_n 2, 1), (30, .invokestatic 99, 3), (33, .iconst 3, 1), (34, .iadd, 1), (35, .dup2, 1), (36, .iaload, 1), (37, .iconst 1, 1), (38, .ixor, 1), (39, .iastore, 1), (40, .aload_n 0, 1), (41, .iconst 2, 1), (42, .iload_n 2, 1), (43, .iconst 3, 1), (44, .invokevirtual 217, 3), (47, .ireturn, 1)]
theorem t_X13_shareNow : jv_dec cX13_shareNow t0_X13_shareNow = true := by decide +kernel
def M_X13_shareNow : jm := (yX13_shareNow, cX13_shareNow, 3, (some .int), 4, 91, [])
def f_X13_shareNow (a0 : Nat) (a1 : Int32) (h : jh) : Option (Int32 × jh) :=
  cV h a0 11 (f_X13_of a0 a1 4 h) fun v1 h2 =>
  cV h2 a0 11 (f_X13_spaceOf a0 2 v1 2 h2) fun v3 h4 =>
  cV h4 a0 11 (f_X13_isOver a0 a1 v3 h4) fun v5 h6 =>
  (if ¬ v5 = 0 then
  gR h6 a0 11 2 fun v8 =>
  bd (f_X13_spaceAt 2 v1 h6) fun v9 h10 =>
  aI h10 v8 (v9 + 3) fun v11 =>
  sI h10 v8 (v9 + 3) (v11 ^^^ 1) fun h12 =>
  cV h12 a0 11 (f_X13_spaceOf a0 2 v1 3 h12) fun v13 h14 =>
  some (v13, h14)
  else
  some ((-1), h6))
theorem P_X13_shareNow (X : jx) (a0 : Nat) (a1 : Int32) (h : jh) : jv_P X M_X13_shareNow jeI [.ref (a0), .int (a1)] h (f_X13_shareNow a0 a1 h) := by
  refine jv_P.of (by decide) rfl (by simp [Value.category]) (Nat.le_of_ble_eq_true rfl) ?_
  show jv_O X M_X13_shareNow (h.1, h.2.1) jeI 0 [some (.ref (a0)), some (.int (a1)), none] [] h (f_X13_shareNow a0 a1 h)
  unfold f_X13_shareNow
  refine jv_aload_n (jv_dk t_X13_shareNow (k := 0) rfl) rfl rfl (Or.inr ⟨_, rfl⟩) ?_
  refine jv_iload_n (jv_dk t_X13_shareNow (k := 1) rfl) rfl rfl ?_
  refine jv_iconst (v := 4) (jv_dk t_X13_shareNow (k := 2) rfl) (by decide) ?_
  refine jv_callV (en' := jeI) (pv := jpI) (As := [.int (a1), .int (4)]) (S := []) (jv_dk t_X13_shareNow (k := 3) rfl) (fun _ => rfl) (Or.inl lk_X13_205) me_X13_of mv_X13_of ⟨by decide, by decide⟩ rfl rfl rfl (Nat.le_of_ble_eq_true rfl) (P_X13_of X a0 a1 4 h) (fun v1 h2 => ?_)
  show jv_O X M_X13_shareNow _ jeI 6 [some (.ref (a0)), some (.int (a1)), none] [.int (v1)] h2 _
  refine jv_istore_n (L' := [some (.ref (a0)), some (.int (a1)), some (.int (v1))]) (jv_dk t_X13_shareNow (k := 4) rfl) rfl (Nat.le_of_ble_eq_true rfl) rfl ?_
  refine jv_aload_n (jv_dk t_X13_shareNow (k := 5) rfl) rfl rfl (Or.inr ⟨_, rfl⟩) ?_
  refine jv_iload_n (jv_dk t_X13_shareNow (k := 6) rfl) rfl rfl ?_
  refine jv_aload_n (jv_dk t_X13_shareNow (k := 7) rfl) rfl rfl (Or.inr ⟨_, rfl⟩) ?_
  refine jv_iconst (v := 2) (jv_dk t_X13_shareNow (k := 8) rfl) (by decide) ?_
  refine jv_iload_n (jv_dk t_X13_shareNow (k := 9) rfl) rfl rfl ?_
  refine jv_iconst (v := 2) (jv_dk t_X13_shareNow (k := 10) rfl) (by decide) ?_
  refine jv_callV (en' := jeI) (pv := jpI) (As := [.int (2), .int (v1), .int (2)]) (S := [.int (a1), .ref (a0)]) (jv_dk t_X13_shareNow (k := 11) rfl) (fun _ => rfl) (Or.inl lk_X13_217) me_X13_spaceOf mv_X13_spaceOf ⟨by decide, by decide⟩ rfl rfl rfl (Nat.le_of_ble_eq_true rfl) (P_X13_spaceOf X a0 2 v1 2 h2) (fun v3 h4 => ?_)
  show jv_O X M_X13_shareNow _ jeI 16 [some (.ref (a0)), some (.int (a1)), some (.int (v1))] [.int (v3), .int (a1), .ref (a0)] h4 _
  refine jv_callV (en' := jeI) (pv := jpI) (As := [.int (a1), .int (v3)]) (S := []) (jv_dk t_X13_shareNow (k := 12) rfl) (fun _ => rfl) (Or.inl lk_X13_267) me_X13_isOver mv_X13_isOver ⟨by decide, by decide⟩ rfl rfl rfl (Nat.le_of_ble_eq_true rfl) (P_X13_isOver X a0 a1 v3 h4) (fun v5 h6 => ?_)
  show jv_O X M_X13_shareNow _ jeI 19 [some (.ref (a0)), some (.int (a1)), some (.int (v1))] [.int (v5)] h6 _
  refine jv_if_ne (tgt := 24) (jv_dk t_X13_shareNow (k := 13) rfl) rfl (fun c7 => ?_) (fun c7 => ?_)
  · refine jv_aload_n (jv_dk t_X13_shareNow (k := 16) rfl) rfl rfl (Or.inr ⟨_, rfl⟩) ?_
    refine jv_gR (jv_dk t_X13_shareNow (k := 17) rfl) fl_X13_37 (fun v8 => ?_)
    refine jv_iconst (v := 2) (jv_dk t_X13_shareNow (k := 18) rfl) (by decide) ?_
    refine jv_iload_n (jv_dk t_X13_shareNow (k := 19) rfl) rfl rfl ?_
    refine jv_callS (en' := jeI) (pv := jpI) (As := [.int (2), .int (v1)]) (S := [.ref (v8)]) (jv_dk t_X13_shareNow (k := 20) rfl) (fun _ => rfl) (Or.inl lk_X13_99) me_X13_spaceAt ms_X13_spaceAt ⟨by decide, by decide⟩ rfl rfl (Nat.le_of_ble_eq_true rfl) (P_X13_spaceAt X 2 v1 h6) (fun v9 h10 => ?_)
    show jv_O X M_X13_shareNow _ jeI 33 [some (.ref (a0)), some (.int (a1)), some (.int (v1))] [.int (v9), .ref (v8)] h10 _
    refine jv_iconst (v := 3) (jv_dk t_X13_shareNow (k := 21) rfl) (by decide) ?_
    refine jv_iadd (jv_dk t_X13_shareNow (k := 22) rfl) ?_
    refine jv_dup2 (jv_dk t_X13_shareNow (k := 23) rfl) rfl rfl ?_
    refine jv_iaload (jv_dk t_X13_shareNow (k := 24) rfl) (fun v11 => ?_)
    refine jv_iconst (v := 1) (jv_dk t_X13_shareNow (k := 25) rfl) (by decide) ?_
    refine jv_ixor (jv_dk t_X13_shareNow (k := 26) rfl) ?_
    refine jv_iastore (jv_dk t_X13_shareNow (k := 27) rfl) (fun h12 => ?_)
    refine jv_aload_n (jv_dk t_X13_shareNow (k := 28) rfl) rfl rfl (Or.inr ⟨_, rfl⟩) ?_
    refine jv_iconst (v := 2) (jv_dk t_X13_shareNow (k := 29) rfl) (by decide) ?_
    refine jv_iload_n (jv_dk t_X13_shareNow (k := 30) rfl) rfl rfl ?_
    refine jv_iconst (v := 3) (jv_dk t_X13_shareNow (k := 31) rfl) (by decide) ?_
    refine jv_callV (en' := jeI) (pv := jpI) (As := [.int (2), .int (v1), .int (3)]) (S := []) (jv_dk t_X13_shareNow (k := 32) rfl) (fun _ => rfl) (Or.inl lk_X13_217) me_X13_spaceOf mv_X13_spaceOf ⟨by decide, by decide⟩ rfl rfl rfl (Nat.le_of_ble_eq_true rfl) (P_X13_spaceOf X a0 2 v1 3 h12) (fun v13 h14 => ?_)
    show jv_O X M_X13_shareNow _ jeI 47 [some (.ref (a0)), some (.int (a1)), some (.int (v1))] [.int (v13)] h14 _
    exact jv_iret (ty := .int) (jv_dk t_X13_shareNow (k := 33) rfl) rfl rfl rfl
  · show jv_O _ _ _ _ 22 _ _ _ _
    refine jv_iconst (v := (-1)) (jv_dk t_X13_shareNow (k := 14) rfl) (by decide) ?_
    exact jv_iret (ty := .int) (jv_dk t_X13_shareNow (k := 15) rfl) rfl rfl rfl
def t0_X13_does : List (Nat × Instr × Nat) := [(0, .aload_n 0, 1), (1, .iload_n 2, 1), (2, .invokevirtual 289, 3), (5, .ifCond .ne 5, 3), (8, .iconst (-1), 1), (9, .ireturn, 1), (10, .iload_n 1, 1), (11, .tableswitch 160 0 9 #[53, 59, 59, 59, 69, 82, 89, 98, 119, 133], 53), (64, .aload_n 0, 1), (65, .iload_n 2, 1), (66, .invokevirtual 295, 3), (69, .ireturn, 1), (70, .aload_n 0, 1), (71, .iload_n 2, 1), (72, .iload_n 1, 1), (73, .invokestatic 173, 3), (76, .invokevirtual 298, 3), (79, .ireturn, 1), (80, .aload_n 0, 1), (81, .iload_n 2, 1), (82, .iload_n 3, 1), (83, .iload 4, 2), (85, .iload 5, 2), (87, .iload 6, 2), (89, .invokevirtual 301, 3), (92, .ireturn, 1), (93, .aload_n 0, 1), (94, .iload_n 2, 1), (95, .iload_n 3, 1), (96, .invokevirtual 305, 3), (99, .ireturn, 1), (100, .aload_n 0, 1), (101, .iload_n 2, 1), (102, .iload_n 3, 1), (103, .iload 4, 2), (105, .invokevirtual 308, 3), (108, .ireturn, 1), (109, .aload_n 0, 1), (110, .iload_n 3, 1), (111, .invokevirtual 289, 3), (114, .ifCond .eq 14, 3), (117, .aload_n 0, 1), (118, .iload_n 2, 1), (119, .iload_n 3, 1), (120, .iload 4, 2), (122, .invokevirtual 311, 3), (125, .goto 4, 3), (128, .iconst (-1), 1), (129, .ireturn, 1), (130, .iload_n 2, 1), (131, .ifCond .ne 7, 3), (134, .iconst (-1), 1), (135, .goto 8, 3), (138, .aload_n 0, 1), (139, .iload_n 2, 1), (140, .invokevirtual 314, 3), (143, .ireturn, 1), (144, .aload_n 0, 1), (145, .iload_n 3, 1), (146, .invokevirtual 289, 3), (149, .ifCond .eq 20, 3), (152, .aload_n 0, 1), (153, .iload_n 2, 1), (154, .iload_n 3, 1), (155, .invokevirtual 317, 3), (158, .ifCond .eq 11, 3), (161, .aload_n 0, 1), (162, .iload_n 3, 1), (163, .invokevirtual 314, 3), (166, .goto 4, 3), (169, .iconst (-1), 1), (170, .ireturn, 1), (171, .aload_n 0, 1), (172, .iload_n 2, 1), (173, .invokevirtual 320, 3), (176, .ireturn, 1)]
theorem t_X13_does : jv_dec cX13_does t0_X13_does = true := by decide +kernel
def M_X13_does : jm := (yX13_does, cX13_does, 7, (some .int), 6, 148, [])
theorem lk_X13_320 : Cond.methodLink RX13 320 M_X13_shareNow.1 ∈ lw_tbl := (jv_at 1692 (by decide +kernel))
set_option maxRecDepth 20000 in
theorem me_X13_shareNow : jv_me M_X13_shareNow 1 := ⟨(jv_in7 (List.mem_of_getElem? (i := 95) rfl)), (jv_at 172 (by decide +kernel)), ⟨by decide, by decide⟩, by decide +kernel⟩
theorem mv_X13_shareNow : jv_mv M_X13_shareNow := ⟨(jv_at 1694 (by decide +kernel)), (jv_at 140 (by decide +kernel))⟩
theorem lk_X13_317 : Cond.methodLink RX13 317 M_X13_canKill.1 ∈ lw_tbl := (jv_at 1688 (by decide +kernel))
set_option maxRecDepth 20000 in
theorem me_X13_canKill : jv_me M_X13_canKill 2 := ⟨(jv_in7 (List.mem_of_getElem? (i := 91) rfl)), (jv_at 172 (by decide +kernel)), ⟨by decide, by decide⟩, by decide +kernel⟩
theorem lk_X13_314 : Cond.methodLink RX13 314 M_X13_endNow.1 ∈ lw_tbl := (jv_at 1672 (by decide +kernel))
set_option maxRecDepth 20000 in
theorem me_X13_endNow : jv_me M_X13_endNow 1 := ⟨(jv_in7 (List.mem_of_getElem? (i := 75) rfl)), (jv_at 172 (by decide +kernel)), ⟨by decide, by decide⟩, by decide +kernel⟩
theorem mv_X13_endNow : jv_mv M_X13_endNow := ⟨(jv_at 1674 (by decide +kernel)), (jv_at 135 (by decide +kernel))⟩
theorem mv_X13_canKill : jv_mv M_X13_canKill := ⟨(jv_at 1690 (by decide +kernel)), (jv_at 139 (by decide +kernel))⟩
theorem lk_X13_311 : Cond.methodLink RX13 311 M_X13_enterNow.1 ∈ lw_tbl := (jv_at 1656 (by decide +kernel))
set_option maxRecDepth 20000 in
theorem me_X13_enterNow : jv_me M_X13_enterNow 3 := ⟨(jv_in7 (List.mem_of_getElem? (i := 59) rfl)), (jv_at 172 (by decide +kernel)), ⟨by decide, by decide⟩, by decide +kernel⟩
theorem mv_X13_enterNow : jv_mv M_X13_enterNow := ⟨(jv_at 1658 (by decide +kernel)), (jv_at 131 (by decide +kernel))⟩
theorem lk_X13_308 : Cond.methodLink RX13 308 M_X13_mountNow.1 ∈ lw_tbl := (jv_at 1648 (by decide +kernel))
set_option maxRecDepth 20000 in
theorem me_X13_mountNow : jv_me M_X13_mountNow 3 := ⟨(jv_in7 (List.mem_of_getElem? (i := 51) rfl)), (jv_at 172 (by decide +kernel)), ⟨by decide, by decide⟩, by decide +kernel⟩
theorem mv_X13_mountNow : jv_mv M_X13_mountNow := ⟨(jv_at 1650 (by decide +kernel)), (jv_at 129 (by decide +kernel))⟩
theorem lk_X13_305 : Cond.methodLink RX13 305 M_X13_becomeNow.1 ∈ lw_tbl := (jv_at 1644 (by decide +kernel))
set_option maxRecDepth 20000 in
theorem me_X13_becomeNow : jv_me M_X13_becomeNow 2 := ⟨(jv_in7 (List.mem_of_getElem? (i := 47) rfl)), (jv_at 172 (by decide +kernel)), ⟨by decide, by decide⟩, by decide +kernel⟩
theorem mv_X13_becomeNow : jv_mv M_X13_becomeNow := ⟨(jv_at 1646 (by decide +kernel)), (jv_at 128 (by decide +kernel))⟩
theorem lk_X13_301 : Cond.methodLink RX13 301 M_X13_mapNow.1 ∈ lw_tbl := (jv_at 1600 (by decide +kernel))
set_option maxRecDepth 20000 in
theorem me_X13_mapNow : jv_me M_X13_mapNow 5 := ⟨(jv_in7 (List.mem_of_getElem? (i := 3) rfl)), (jv_at 172 (by decide +kernel)), ⟨by decide, by decide⟩, by decide +kernel⟩
theorem mv_X13_mapNow : jv_mv M_X13_mapNow := ⟨(jv_at 1602 (by decide +kernel)), (jv_at 118 (by decide +kernel))⟩
theorem lk_X13_298 : Cond.methodLink RX13 298 M_X13_createNow.1 ∈ lw_tbl := (jv_at 1588 (by decide +kernel))
set_option maxRecDepth 20000 in
theorem me_X13_createNow : jv_me M_X13_createNow 2 := ⟨(jv_in6 (List.mem_of_getElem? (i := 231) rfl)), (jv_at 172 (by decide +kernel)), ⟨by decide, by decide⟩, by decide +kernel⟩
theorem mv_X13_createNow : jv_mv M_X13_createNow := ⟨(jv_at 1590 (by decide +kernel)), (jv_at 115 (by decide +kernel))⟩
theorem lk_X13_295 : Cond.methodLink RX13 295 M_X13_forkNow.1 ∈ lw_tbl := (jv_at 1558 (by decide +kernel))
set_option maxRecDepth 20000 in
theorem me_X13_forkNow : jv_me M_X13_forkNow 1 := ⟨(jv_in6 (List.mem_of_getElem? (i := 201) rfl)), (jv_at 172 (by decide +kernel)), ⟨by decide, by decide⟩, by decide +kernel⟩
theorem mv_X13_forkNow : jv_mv M_X13_forkNow := ⟨(jv_at 1560 (by decide +kernel)), (jv_at 109 (by decide +kernel))⟩
def f_X13_does_b70 (x0 : Nat) (x1 : Int32) (x2 : Int32) (h : jh) : Option (Int32 × jh) :=
  bd (f_X13_kindOf x1 h) fun v38 h39 =>
  cV h39 x0 11 (f_X13_createNow x0 x2 v38 h39) fun v40 h41 =>
  some (v40, h41)
theorem o_f_X13_does_b70 {X : jx} {b0 : Nat × Nat} (x0 : Nat) (x1 : Int32) (x2 : Int32) (h : jh) : jv_O X M_X13_does b0 jeI 70 [some (.ref (x0)), some (.int (x1)), some (.int (x2)), none, none, none, none] [] h (f_X13_does_b70 x0 x1 x2 h) := by
  unfold f_X13_does_b70
  refine jv_aload_n (jv_dk t_X13_does (k := 12) rfl) rfl rfl (Or.inr ⟨_, rfl⟩) ?_
  refine jv_iload_n (jv_dk t_X13_does (k := 13) rfl) rfl rfl ?_
  refine jv_iload_n (jv_dk t_X13_does (k := 14) rfl) rfl rfl ?_
  refine jv_callS (en' := jeI) (pv := jpI) (As := [.int (x1)]) (S := [.int (x2), .ref (x0)]) (jv_dk t_X13_does (k := 15) rfl) (fun _ => rfl) (Or.inl lk_X13_173) me_X13_kindOf ms_X13_kindOf ⟨by decide, by decide⟩ rfl rfl (Nat.le_of_ble_eq_true rfl) (P_X13_kindOf X x1 h) (fun v38 h39 => ?_)
  show jv_O X M_X13_does _ jeI 76 [some (.ref (x0)), some (.int (x1)), some (.int (x2)), none, none, none, none] [.int (v38), .int (x2), .ref (x0)] h39 _
  refine jv_callV (en' := jeI) (pv := jpI) (As := [.int (x2), .int (v38)]) (S := []) (jv_dk t_X13_does (k := 16) rfl) (fun _ => rfl) (Or.inl lk_X13_298) me_X13_createNow mv_X13_createNow ⟨by decide, by decide⟩ rfl rfl rfl (Nat.le_of_ble_eq_true rfl) (P_X13_createNow X x0 x2 v38 h39) (fun v40 h41 => ?_)
  show jv_O X M_X13_does _ jeI 79 [some (.ref (x0)), some (.int (x1)), some (.int (x2)), none, none, none, none] [.int (v40)] h41 _
  exact jv_iret (ty := .int) (jv_dk t_X13_does (k := 17) rfl) rfl rfl rfl
def f_X13_does (a0 : Nat) (a1 : Int32) (a2 : Int32) (a3 : Int32) (a4 : Int32) (a5 : Int32) (a6 : Int32) (h : jh) : Option (Int32 × jh) :=
  cV h a0 11 (f_X13_isThere a0 a2 h) fun v1 h2 =>
  (if ¬ v1 = 0 then
  (if a1 = 0 then
  cV h2 a0 11 (f_X13_forkNow a0 a2 h2) fun v42 h43 =>
  some (v42, h43)
  else
  (if a1 = 1 then
  f_X13_does_b70 a0 a1 a2 h2
  else
  (if a1 = 2 then
  f_X13_does_b70 a0 a1 a2 h2
  else
  (if a1 = 3 then
  f_X13_does_b70 a0 a1 a2 h2
  else
  (if a1 = 4 then
  cV h2 a0 11 (f_X13_mapNow a0 a2 a3 a4 a5 a6 h2) fun v36 h37 =>
  some (v36, h37)
  else
  (if a1 = 5 then
  cV h2 a0 11 (f_X13_becomeNow a0 a2 a3 h2) fun v34 h35 =>
  some (v34, h35)
  else
  (if a1 = 6 then
  cV h2 a0 11 (f_X13_mountNow a0 a2 a3 a4 h2) fun v32 h33 =>
  some (v32, h33)
  else
  (if a1 = 7 then
  cV h2 a0 11 (f_X13_isThere a0 a3 h2) fun v27 h28 =>
  (if v27 = 0 then
  some ((-1), h28)
  else
  cV h28 a0 11 (f_X13_enterNow a0 a2 a3 a4 h28) fun v30 h31 =>
  some (v30, h31))
  else
  (if a1 = 8 then
  (if ¬ a2 = 0 then
  cV h2 a0 11 (f_X13_endNow a0 a2 h2) fun v25 h26 =>
  some (v25, h26)
  else
  some ((-1), h2))
  else
  (if a1 = 9 then
  cV h2 a0 11 (f_X13_isThere a0 a3 h2) fun v16 h17 =>
  (if v16 = 0 then
  some ((-1), h17)
  else
  cV h17 a0 11 (f_X13_canKill a0 a2 a3 h17) fun v19 h20 =>
  (if v19 = 0 then
  some ((-1), h20)
  else
  cV h20 a0 11 (f_X13_endNow a0 a3 h20) fun v22 h23 =>
  some (v22, h23)))
  else
  cV h2 a0 11 (f_X13_shareNow a0 a2 h2) fun v14 h15 =>
  some (v14, h15)))))))))))
  else
  some ((-1), h2))
theorem P_X13_does (X : jx) (a0 : Nat) (a1 : Int32) (a2 : Int32) (a3 : Int32) (a4 : Int32) (a5 : Int32) (a6 : Int32) (h : jh) : jv_P X M_X13_does jeI [.ref (a0), .int (a1), .int (a2), .int (a3), .int (a4), .int (a5), .int (a6)] h (f_X13_does a0 a1 a2 a3 a4 a5 a6 h) := by
  refine jv_P.of (by decide) rfl (by simp [Value.category]) (Nat.le_of_ble_eq_true rfl) ?_
  show jv_O X M_X13_does (h.1, h.2.1) jeI 0 [some (.ref (a0)), some (.int (a1)), some (.int (a2)), some (.int (a3)), some (.int (a4)), some (.int (a5)), some (.int (a6))] [] h (f_X13_does a0 a1 a2 a3 a4 a5 a6 h)
  unfold f_X13_does
  refine jv_aload_n (jv_dk t_X13_does (k := 0) rfl) rfl rfl (Or.inr ⟨_, rfl⟩) ?_
  refine jv_iload_n (jv_dk t_X13_does (k := 1) rfl) rfl rfl ?_
  refine jv_callV (en' := jeI) (pv := jpI) (As := [.int (a2)]) (S := []) (jv_dk t_X13_does (k := 2) rfl) (fun _ => rfl) (Or.inl lk_X13_289) me_X13_isThere mv_X13_isThere ⟨by decide, by decide⟩ rfl rfl rfl (Nat.le_of_ble_eq_true rfl) (P_X13_isThere X a0 a2 h) (fun v1 h2 => ?_)
  show jv_O X M_X13_does _ jeI 5 [some (.ref (a0)), some (.int (a1)), some (.int (a2)), some (.int (a3)), some (.int (a4)), some (.int (a5)), some (.int (a6))] [.int (v1)] h2 _
  refine jv_if_ne (tgt := 10) (jv_dk t_X13_does (k := 3) rfl) rfl (fun c3 => ?_) (fun c3 => ?_)
  · refine jv_iload_n (jv_dk t_X13_does (k := 6) rfl) rfl rfl ?_
    by_cases c4 : a1 = 0
    · rw [if_pos c4]
      refine jv_tbl (tgt := 64) (jv_dk t_X13_does (k := 7) rfl) (by rw [c4] <;> decide) (by rw [c4] <;> decide) (by rw [c4] <;> rfl) rfl ?_
      refine jv_aload_n (jv_dk t_X13_does (k := 8) rfl) rfl rfl (Or.inr ⟨_, rfl⟩) ?_
      refine jv_iload_n (jv_dk t_X13_does (k := 9) rfl) rfl rfl ?_
      refine jv_callV (en' := jeI) (pv := jpI) (As := [.int (a2)]) (S := []) (jv_dk t_X13_does (k := 10) rfl) (fun _ => rfl) (Or.inl lk_X13_295) me_X13_forkNow mv_X13_forkNow ⟨by decide, by decide⟩ rfl rfl rfl (Nat.le_of_ble_eq_true rfl) (P_X13_forkNow X a0 a2 h2) (fun v42 h43 => ?_)
      show jv_O X M_X13_does _ jeI 69 [some (.ref (a0)), some (.int (a1)), some (.int (a2)), some (.int (a3)), some (.int (a4)), some (.int (a5)), some (.int (a6))] [.int (v42)] h43 _
      exact jv_iret (ty := .int) (jv_dk t_X13_does (k := 11) rfl) rfl rfl rfl
    rw [if_neg c4]
    by_cases c5 : a1 = 1
    · rw [if_pos c5]
      refine jv_tbl (tgt := 70) (jv_dk t_X13_does (k := 7) rfl) (by rw [c5] <;> decide) (by rw [c5] <;> decide) (by rw [c5] <;> rfl) rfl ?_
      refine jv_le_row (jv_le_s (jv_le_s (jv_le_s (jv_le_n (jv_le_n (jv_le_n (jv_le_n (jv_le_nil)))))))) ?_
      exact o_f_X13_does_b70 _ _ _ _ 
    rw [if_neg c5]
    by_cases c6 : a1 = 2
    · rw [if_pos c6]
      refine jv_tbl (tgt := 70) (jv_dk t_X13_does (k := 7) rfl) (by rw [c6] <;> decide) (by rw [c6] <;> decide) (by rw [c6] <;> rfl) rfl ?_
      refine jv_le_row (jv_le_s (jv_le_s (jv_le_s (jv_le_n (jv_le_n (jv_le_n (jv_le_n (jv_le_nil)))))))) ?_
      exact o_f_X13_does_b70 _ _ _ _ 
    rw [if_neg c6]
    by_cases c7 : a1 = 3
    · rw [if_pos c7]
      refine jv_tbl (tgt := 70) (jv_dk t_X13_does (k := 7) rfl) (by rw [c7] <;> decide) (by rw [c7] <;> decide) (by rw [c7] <;> rfl) rfl ?_
      refine jv_le_row (jv_le_s (jv_le_s (jv_le_s (jv_le_n (jv_le_n (jv_le_n (jv_le_n (jv_le_nil)))))))) ?_
      exact o_f_X13_does_b70 _ _ _ _ 
    rw [if_neg c7]
    by_cases c8 : a1 = 4
    · rw [if_pos c8]
      refine jv_tbl (tgt := 80) (jv_dk t_X13_does (k := 7) rfl) (by rw [c8] <;> decide) (by rw [c8] <;> decide) (by rw [c8] <;> rfl) rfl ?_
      refine jv_aload_n (jv_dk t_X13_does (k := 18) rfl) rfl rfl (Or.inr ⟨_, rfl⟩) ?_
      refine jv_iload_n (jv_dk t_X13_does (k := 19) rfl) rfl rfl ?_
      refine jv_iload_n (jv_dk t_X13_does (k := 20) rfl) rfl rfl ?_
      refine jv_iload (jv_dk t_X13_does (k := 21) rfl) rfl ?_
      refine jv_iload (jv_dk t_X13_does (k := 22) rfl) rfl ?_
      refine jv_iload (jv_dk t_X13_does (k := 23) rfl) rfl ?_
      refine jv_callV (en' := jeI) (pv := jpI) (As := [.int (a2), .int (a3), .int (a4), .int (a5), .int (a6)]) (S := []) (jv_dk t_X13_does (k := 24) rfl) (fun _ => rfl) (Or.inl lk_X13_301) me_X13_mapNow mv_X13_mapNow ⟨by decide, by decide⟩ rfl rfl rfl (Nat.le_of_ble_eq_true rfl) (P_X13_mapNow X a0 a2 a3 a4 a5 a6 h2) (fun v36 h37 => ?_)
      show jv_O X M_X13_does _ jeI 92 [some (.ref (a0)), some (.int (a1)), some (.int (a2)), some (.int (a3)), some (.int (a4)), some (.int (a5)), some (.int (a6))] [.int (v36)] h37 _
      exact jv_iret (ty := .int) (jv_dk t_X13_does (k := 25) rfl) rfl rfl rfl
    rw [if_neg c8]
    by_cases c9 : a1 = 5
    · rw [if_pos c9]
      refine jv_tbl (tgt := 93) (jv_dk t_X13_does (k := 7) rfl) (by rw [c9] <;> decide) (by rw [c9] <;> decide) (by rw [c9] <;> rfl) rfl ?_
      refine jv_aload_n (jv_dk t_X13_does (k := 26) rfl) rfl rfl (Or.inr ⟨_, rfl⟩) ?_
      refine jv_iload_n (jv_dk t_X13_does (k := 27) rfl) rfl rfl ?_
      refine jv_iload_n (jv_dk t_X13_does (k := 28) rfl) rfl rfl ?_
      refine jv_callV (en' := jeI) (pv := jpI) (As := [.int (a2), .int (a3)]) (S := []) (jv_dk t_X13_does (k := 29) rfl) (fun _ => rfl) (Or.inl lk_X13_305) me_X13_becomeNow mv_X13_becomeNow ⟨by decide, by decide⟩ rfl rfl rfl (Nat.le_of_ble_eq_true rfl) (P_X13_becomeNow X a0 a2 a3 h2) (fun v34 h35 => ?_)
      show jv_O X M_X13_does _ jeI 99 [some (.ref (a0)), some (.int (a1)), some (.int (a2)), some (.int (a3)), some (.int (a4)), some (.int (a5)), some (.int (a6))] [.int (v34)] h35 _
      exact jv_iret (ty := .int) (jv_dk t_X13_does (k := 30) rfl) rfl rfl rfl
    rw [if_neg c9]
    by_cases c10 : a1 = 6
    · rw [if_pos c10]
      refine jv_tbl (tgt := 100) (jv_dk t_X13_does (k := 7) rfl) (by rw [c10] <;> decide) (by rw [c10] <;> decide) (by rw [c10] <;> rfl) rfl ?_
      refine jv_aload_n (jv_dk t_X13_does (k := 31) rfl) rfl rfl (Or.inr ⟨_, rfl⟩) ?_
      refine jv_iload_n (jv_dk t_X13_does (k := 32) rfl) rfl rfl ?_
      refine jv_iload_n (jv_dk t_X13_does (k := 33) rfl) rfl rfl ?_
      refine jv_iload (jv_dk t_X13_does (k := 34) rfl) rfl ?_
      refine jv_callV (en' := jeI) (pv := jpI) (As := [.int (a2), .int (a3), .int (a4)]) (S := []) (jv_dk t_X13_does (k := 35) rfl) (fun _ => rfl) (Or.inl lk_X13_308) me_X13_mountNow mv_X13_mountNow ⟨by decide, by decide⟩ rfl rfl rfl (Nat.le_of_ble_eq_true rfl) (P_X13_mountNow X a0 a2 a3 a4 h2) (fun v32 h33 => ?_)
      show jv_O X M_X13_does _ jeI 108 [some (.ref (a0)), some (.int (a1)), some (.int (a2)), some (.int (a3)), some (.int (a4)), some (.int (a5)), some (.int (a6))] [.int (v32)] h33 _
      exact jv_iret (ty := .int) (jv_dk t_X13_does (k := 36) rfl) rfl rfl rfl
    rw [if_neg c10]
    by_cases c11 : a1 = 7
    · rw [if_pos c11]
      refine jv_tbl (tgt := 109) (jv_dk t_X13_does (k := 7) rfl) (by rw [c11] <;> decide) (by rw [c11] <;> decide) (by rw [c11] <;> rfl) rfl ?_
      refine jv_aload_n (jv_dk t_X13_does (k := 37) rfl) rfl rfl (Or.inr ⟨_, rfl⟩) ?_
      refine jv_iload_n (jv_dk t_X13_does (k := 38) rfl) rfl rfl ?_
      refine jv_callV (en' := jeI) (pv := jpI) (As := [.int (a3)]) (S := []) (jv_dk t_X13_does (k := 39) rfl) (fun _ => rfl) (Or.inl lk_X13_289) me_X13_isThere mv_X13_isThere ⟨by decide, by decide⟩ rfl rfl rfl (Nat.le_of_ble_eq_true rfl) (P_X13_isThere X a0 a3 h2) (fun v27 h28 => ?_)
      show jv_O X M_X13_does _ jeI 114 [some (.ref (a0)), some (.int (a1)), some (.int (a2)), some (.int (a3)), some (.int (a4)), some (.int (a5)), some (.int (a6))] [.int (v27)] h28 _
      refine jv_if_eq (tgt := 128) (jv_dk t_X13_does (k := 40) rfl) rfl (fun c29 => ?_) (fun c29 => ?_)
      · refine jv_iconst (v := (-1)) (jv_dk t_X13_does (k := 47) rfl) (by decide) ?_
        exact jv_iret (ty := .int) (jv_dk t_X13_does (k := 48) rfl) rfl rfl rfl
      · show jv_O _ _ _ _ 117 _ _ _ _
        refine jv_aload_n (jv_dk t_X13_does (k := 41) rfl) rfl rfl (Or.inr ⟨_, rfl⟩) ?_
        refine jv_iload_n (jv_dk t_X13_does (k := 42) rfl) rfl rfl ?_
        refine jv_iload_n (jv_dk t_X13_does (k := 43) rfl) rfl rfl ?_
        refine jv_iload (jv_dk t_X13_does (k := 44) rfl) rfl ?_
        refine jv_callV (en' := jeI) (pv := jpI) (As := [.int (a2), .int (a3), .int (a4)]) (S := []) (jv_dk t_X13_does (k := 45) rfl) (fun _ => rfl) (Or.inl lk_X13_311) me_X13_enterNow mv_X13_enterNow ⟨by decide, by decide⟩ rfl rfl rfl (Nat.le_of_ble_eq_true rfl) (P_X13_enterNow X a0 a2 a3 a4 h28) (fun v30 h31 => ?_)
        show jv_O X M_X13_does _ jeI 125 [some (.ref (a0)), some (.int (a1)), some (.int (a2)), some (.int (a3)), some (.int (a4)), some (.int (a5)), some (.int (a6))] [.int (v30)] h31 _
        refine jv_goto (tgt := 129) (jv_dk t_X13_does (k := 46) rfl) rfl ?_
        exact jv_iret (ty := .int) (jv_dk t_X13_does (k := 48) rfl) rfl rfl rfl
    rw [if_neg c11]
    by_cases c12 : a1 = 8
    · rw [if_pos c12]
      refine jv_tbl (tgt := 130) (jv_dk t_X13_does (k := 7) rfl) (by rw [c12] <;> decide) (by rw [c12] <;> decide) (by rw [c12] <;> rfl) rfl ?_
      refine jv_iload_n (jv_dk t_X13_does (k := 49) rfl) rfl rfl ?_
      refine jv_if_ne (tgt := 138) (jv_dk t_X13_does (k := 50) rfl) rfl (fun c24 => ?_) (fun c24 => ?_)
      · refine jv_aload_n (jv_dk t_X13_does (k := 53) rfl) rfl rfl (Or.inr ⟨_, rfl⟩) ?_
        refine jv_iload_n (jv_dk t_X13_does (k := 54) rfl) rfl rfl ?_
        refine jv_callV (en' := jeI) (pv := jpI) (As := [.int (a2)]) (S := []) (jv_dk t_X13_does (k := 55) rfl) (fun _ => rfl) (Or.inl lk_X13_314) me_X13_endNow mv_X13_endNow ⟨by decide, by decide⟩ rfl rfl rfl (Nat.le_of_ble_eq_true rfl) (P_X13_endNow X a0 a2 h2) (fun v25 h26 => ?_)
        show jv_O X M_X13_does _ jeI 143 [some (.ref (a0)), some (.int (a1)), some (.int (a2)), some (.int (a3)), some (.int (a4)), some (.int (a5)), some (.int (a6))] [.int (v25)] h26 _
        exact jv_iret (ty := .int) (jv_dk t_X13_does (k := 56) rfl) rfl rfl rfl
      · show jv_O _ _ _ _ 134 _ _ _ _
        refine jv_iconst (v := (-1)) (jv_dk t_X13_does (k := 51) rfl) (by decide) ?_
        refine jv_goto (tgt := 143) (jv_dk t_X13_does (k := 52) rfl) rfl ?_
        exact jv_iret (ty := .int) (jv_dk t_X13_does (k := 56) rfl) rfl rfl rfl
    rw [if_neg c12]
    by_cases c13 : a1 = 9
    · rw [if_pos c13]
      refine jv_tbl (tgt := 144) (jv_dk t_X13_does (k := 7) rfl) (by rw [c13] <;> decide) (by rw [c13] <;> decide) (by rw [c13] <;> rfl) rfl ?_
      refine jv_aload_n (jv_dk t_X13_does (k := 57) rfl) rfl rfl (Or.inr ⟨_, rfl⟩) ?_
      refine jv_iload_n (jv_dk t_X13_does (k := 58) rfl) rfl rfl ?_
      refine jv_callV (en' := jeI) (pv := jpI) (As := [.int (a3)]) (S := []) (jv_dk t_X13_does (k := 59) rfl) (fun _ => rfl) (Or.inl lk_X13_289) me_X13_isThere mv_X13_isThere ⟨by decide, by decide⟩ rfl rfl rfl (Nat.le_of_ble_eq_true rfl) (P_X13_isThere X a0 a3 h2) (fun v16 h17 => ?_)
      show jv_O X M_X13_does _ jeI 149 [some (.ref (a0)), some (.int (a1)), some (.int (a2)), some (.int (a3)), some (.int (a4)), some (.int (a5)), some (.int (a6))] [.int (v16)] h17 _
      refine jv_if_eq (tgt := 169) (jv_dk t_X13_does (k := 60) rfl) rfl (fun c18 => ?_) (fun c18 => ?_)
      · refine jv_iconst (v := (-1)) (jv_dk t_X13_does (k := 70) rfl) (by decide) ?_
        exact jv_iret (ty := .int) (jv_dk t_X13_does (k := 71) rfl) rfl rfl rfl
      · show jv_O _ _ _ _ 152 _ _ _ _
        refine jv_aload_n (jv_dk t_X13_does (k := 61) rfl) rfl rfl (Or.inr ⟨_, rfl⟩) ?_
        refine jv_iload_n (jv_dk t_X13_does (k := 62) rfl) rfl rfl ?_
        refine jv_iload_n (jv_dk t_X13_does (k := 63) rfl) rfl rfl ?_
        refine jv_callV (en' := jeI) (pv := jpI) (As := [.int (a2), .int (a3)]) (S := []) (jv_dk t_X13_does (k := 64) rfl) (fun _ => rfl) (Or.inl lk_X13_317) me_X13_canKill mv_X13_canKill ⟨by decide, by decide⟩ rfl rfl rfl (Nat.le_of_ble_eq_true rfl) (P_X13_canKill X a0 a2 a3 h17) (fun v19 h20 => ?_)
        show jv_O X M_X13_does _ jeI 158 [some (.ref (a0)), some (.int (a1)), some (.int (a2)), some (.int (a3)), some (.int (a4)), some (.int (a5)), some (.int (a6))] [.int (v19)] h20 _
        refine jv_if_eq (tgt := 169) (jv_dk t_X13_does (k := 65) rfl) rfl (fun c21 => ?_) (fun c21 => ?_)
        · refine jv_iconst (v := (-1)) (jv_dk t_X13_does (k := 70) rfl) (by decide) ?_
          exact jv_iret (ty := .int) (jv_dk t_X13_does (k := 71) rfl) rfl rfl rfl
        · show jv_O _ _ _ _ 161 _ _ _ _
          refine jv_aload_n (jv_dk t_X13_does (k := 66) rfl) rfl rfl (Or.inr ⟨_, rfl⟩) ?_
          refine jv_iload_n (jv_dk t_X13_does (k := 67) rfl) rfl rfl ?_
          refine jv_callV (en' := jeI) (pv := jpI) (As := [.int (a3)]) (S := []) (jv_dk t_X13_does (k := 68) rfl) (fun _ => rfl) (Or.inl lk_X13_314) me_X13_endNow mv_X13_endNow ⟨by decide, by decide⟩ rfl rfl rfl (Nat.le_of_ble_eq_true rfl) (P_X13_endNow X a0 a3 h20) (fun v22 h23 => ?_)
          show jv_O X M_X13_does _ jeI 166 [some (.ref (a0)), some (.int (a1)), some (.int (a2)), some (.int (a3)), some (.int (a4)), some (.int (a5)), some (.int (a6))] [.int (v22)] h23 _
          refine jv_goto (tgt := 170) (jv_dk t_X13_does (k := 69) rfl) rfl ?_
          exact jv_iret (ty := .int) (jv_dk t_X13_does (k := 71) rfl) rfl rfl rfl
    rw [if_neg c13]
    have e_c4 := jv_ne (x := a1) (k := 0) (by decide) (by decide) c4
    have e_c5 := jv_ne (x := a1) (k := 1) (by decide) (by decide) c5
    have e_c6 := jv_ne (x := a1) (k := 2) (by decide) (by decide) c6
    have e_c7 := jv_ne (x := a1) (k := 3) (by decide) (by decide) c7
    have e_c8 := jv_ne (x := a1) (k := 4) (by decide) (by decide) c8
    have e_c9 := jv_ne (x := a1) (k := 5) (by decide) (by decide) c9
    have e_c10 := jv_ne (x := a1) (k := 6) (by decide) (by decide) c10
    have e_c11 := jv_ne (x := a1) (k := 7) (by decide) (by decide) c11
    have e_c12 := jv_ne (x := a1) (k := 8) (by decide) (by decide) c12
    have e_c13 := jv_ne (x := a1) (k := 9) (by decide) (by decide) c13
    refine jv_tblOut (tgt := 171) (jv_dk t_X13_does (k := 7) rfl) (by omega) rfl ?_
    refine jv_aload_n (jv_dk t_X13_does (k := 72) rfl) rfl rfl (Or.inr ⟨_, rfl⟩) ?_
    refine jv_iload_n (jv_dk t_X13_does (k := 73) rfl) rfl rfl ?_
    refine jv_callV (en' := jeI) (pv := jpI) (As := [.int (a2)]) (S := []) (jv_dk t_X13_does (k := 74) rfl) (fun _ => rfl) (Or.inl lk_X13_320) me_X13_shareNow mv_X13_shareNow ⟨by decide, by decide⟩ rfl rfl rfl (Nat.le_of_ble_eq_true rfl) (P_X13_shareNow X a0 a2 h2) (fun v14 h15 => ?_)
    show jv_O X M_X13_does _ jeI 176 [some (.ref (a0)), some (.int (a1)), some (.int (a2)), some (.int (a3)), some (.int (a4)), some (.int (a5)), some (.int (a6))] [.int (v14)] h15 _
    exact jv_iret (ty := .int) (jv_dk t_X13_does (k := 75) rfl) rfl rfl rfl
  · show jv_O _ _ _ _ 8 _ _ _ _
    refine jv_iconst (v := (-1)) (jv_dk t_X13_does (k := 4) rfl) (by decide) ?_
    exact jv_iret (ty := .int) (jv_dk t_X13_does (k := 5) rfl) rfl rfl rfl
def t0_X13_spaces : List (Nat × Instr × Nat) := [(0, .aload_n 0, 1), (1, .iconst 0, 1), (2, .putfield 96, 3), (5, .iload_n 1, 1), (6, .ifCond .lt 11, 3), (9, .iload_n 1, 1), (10, .aload_n 0, 1), (11, .getfield 103, 3), (14, .if_icmp .le 9, 3), (17, .aload_n 0, 1), (18, .iconst 1, 1), (19, .invokevirtual 185, 3), (22, .ireturn, 1), (23, .aload_n 0, 1), (24, .iconst 0, 1), (25, .putfield 103, 3), (28, .aload_n 0, 1), (29, .iload_n 1, 1), (30, .putfield 106, 3), (33, .aload_n 0, 1), (34, .iconst 0, 1), (35, .putfield 109, 3), (38, .aload_n 0, 1), (39, .iconst 0, 1), (40, .putfield 141, 3), (43, .aload_n 0, 1), (44, .iconst (-1), 1), (45, .putfield 47, 3), (48, .aload_n 0, 1), (49, .iconst 0, 1), (50, .putfield 176, 3), (53, .aload_n 0, 1), (54, .invokevirtual 163, 3), (57, .aload_n 0, 1), (58, .getfield 141, 3), (61, .ifCond .ne 17, 3), (64, .aload_n 0, 1), (65, .getfield 119, 3), (68, .ifCond .eq 10, 3), (71, .aload_n 0, 1), (72, .invokevirtual 188, 3), (75, .goto (-18), 3), (78, .aload_n 0, 1), (79, .getfield 141, 3), (82, .ifCond .eq 26, 3), (85, .aload_n 0, 1), (86, .aload_n 0, 1), (87, .getfield 144, 3), (90, .putfield 47, 3), (93, .aload_n 0, 1), (94, .getfield 41, 3), (97, .iconst 0, 1), (98, .dup2, 1), (99, .iaload, 1), (100, .iconst 1, 1), (101, .iadd, 1), (102, .iastore, 1), (103, .aload_n 0, 1), (104, .getfield 141, 3), (107, .ireturn, 1), (108, .aload_n 0, 1), (109, .invokevirtual 93, 3), (112, .iconst 0, 1), (113, .istore_n 2, 1), (114, .iload_n 2, 1), (115, .bipush 6, 2), (117, .aload_n 0, 1), (118, .getfield 176, 3), (121, .imul, 1), (122, .if_icmp .ge 60, 3), (125, .aload_n 0, 1), (126, .aload_n 0, 1), (127, .getfield 51, 3), (130, .iload_n 2, 1), (131, .iaload, 1), (132, .aload_n 0, 1), (133, .getfield 51, 3), (136, .iload_n 2, 1), (137, .iconst 1, 1), (138, .iadd, 1), (139, .iaload, 1), (140, .aload_n 0, 1), (141, .getfield 51, 3), (144, .iload_n 2, 1), (145, .iconst 2, 1), (146, .iadd, 1), (147, .iaload, 1), (148, .aload_n 0, 1), (149, .getfield 51, 3), (152, .iload_n 2, 1), (153, .iconst 3, 1), (154, .iadd, 1), (155, .iaload, 1), (156, .aload_n 0, 1), (157, .getfield 51, 3), (160, .iload_n 2, 1), (161, .iconst 4, 1), (162, .iadd, 1), (163, .iaload, 1), (164, .aload_n 0, 1), (165, .getfield 51, 3), (168, .iload_n 2, 1), (169, .iconst 5, 1), (170, .iadd, 1), (171, .iaload, 1), (172, .invokevirtual 191, 3), (175, .pop, 1), (176, .iinc 2 6, 3), (179, .goto (-65), 3), (182, .aload_n 0, 1), (183, .iconst 0, 1), (184, .putfield 195, 3), (187, .aload_n 0, 1), (188, .iconst 0, 1), (189, .putfield 198, 3), (192, .aload_n 0, 1), (193, .iconst 0, 1), (194, .putfield 201, 3), (197, .iconst 0, 1), (198, .ireturn, 1)]
theorem t_X13_spaces : jv_dec cX13_spaces t0_X13_spaces = true := by decide +kernel
def M_X13_spaces : jm := (yX13_spaces, cX13_spaces, 3, (some .int), 9, 268, [])
theorem lk_X13_185 : Cond.methodLink RX13 185 M_X13_fail.1 ∈ lw_tbl := (jv_at 1494 (by decide +kernel))
set_option maxRecDepth 20000 in
theorem me_X13_fail : jv_me M_X13_fail 1 := ⟨(jv_in6 (List.mem_of_getElem? (i := 137) rfl)), (jv_at 172 (by decide +kernel)), ⟨by decide, by decide⟩, by decide +kernel⟩
theorem mv_X13_fail : jv_mv M_X13_fail := ⟨(jv_at 1496 (by decide +kernel)), (jv_at 97 (by decide +kernel))⟩
theorem lk_X13_188 : Cond.methodLink RX13 188 M_X13_readClause.1 ∈ lw_tbl := (jv_at 1514 (by decide +kernel))
set_option maxRecDepth 20000 in
theorem me_X13_readClause : jv_me M_X13_readClause 0 := ⟨(jv_in6 (List.mem_of_getElem? (i := 157) rfl)), (jv_at 172 (by decide +kernel)), ⟨by decide, by decide⟩, by decide +kernel⟩
theorem mv_X13_readClause : jv_mv M_X13_readClause := ⟨(jv_at 1516 (by decide +kernel)), (jv_at 100 (by decide +kernel))⟩
theorem lk_X13_191 : Cond.methodLink RX13 191 M_X13_does.1 ∈ lw_tbl := (jv_at 1546 (by decide +kernel))
set_option maxRecDepth 20000 in
theorem me_X13_does : jv_me M_X13_does 6 := ⟨(jv_in6 (List.mem_of_getElem? (i := 189) rfl)), (jv_at 172 (by decide +kernel)), ⟨by decide, by decide⟩, by decide +kernel⟩
theorem mv_X13_does : jv_mv M_X13_does := ⟨(jv_at 1548 (by decide +kernel)), (jv_at 106 (by decide +kernel))⟩
theorem fl_X13_195 : jv_F RX13 195 11 18 RX13 TX13 36 := ⟨rfl, by decide, inX13, Or.inl (jv_at 1390 (by decide +kernel))⟩
theorem fl_X13_198 : jv_F RX13 198 11 22 RX13 TX13 36 := ⟨rfl, by decide, inX13, Or.inl (jv_at 1394 (by decide +kernel))⟩
theorem fl_X13_201 : jv_F RX13 201 11 27 RX13 TX13 36 := ⟨rfl, by decide, inX13, Or.inl (jv_at 1399 (by decide +kernel))⟩
def f_X13_spaces_b17 (x0 : Nat) (h : jh) : Option (Int32 × jh) :=
  cV h x0 11 (f_X13_fail x0 1 h) fun v3 h4 =>
  some (v3, h4)
theorem o_f_X13_spaces_b17 {X : jx} {b0 : Nat × Nat} (x0 : Nat) (h : jh) : jv_O X M_X13_spaces b0 jeI 17 [some (.ref (x0)), none, none] [] h (f_X13_spaces_b17 x0 h) := by
  unfold f_X13_spaces_b17
  refine jv_aload_n (jv_dk t_X13_spaces (k := 9) rfl) rfl rfl (Or.inr ⟨_, rfl⟩) ?_
  refine jv_iconst (v := 1) (jv_dk t_X13_spaces (k := 10) rfl) (by decide) ?_
  refine jv_callV (en' := jeI) (pv := jpI) (As := [.int (1)]) (S := []) (jv_dk t_X13_spaces (k := 11) rfl) (fun _ => rfl) (Or.inl lk_X13_185) me_X13_fail mv_X13_fail ⟨by decide, by decide⟩ rfl rfl rfl (Nat.le_of_ble_eq_true rfl) (P_X13_fail X x0 1 h) (fun v3 h4 => ?_)
  show jv_O X M_X13_spaces _ jeI 22 [some (.ref (x0)), none, none] [.int (v3)] h4 _
  exact jv_iret (ty := .int) (jv_dk t_X13_spaces (k := 12) rfl) rfl rfl rfl
def f_X13_spaces_h57 (K57 : Nat → jh → Option (Int32 × jh)) (R57 : Nat → jh → Option (Int32 × jh)) (x0 : Nat) (h : jh) : Option (Int32 × jh) :=
  gI h x0 11 12 fun v14 =>
  (if ¬ v14 = 0 then
  K57 x0 h
  else
  gI h x0 11 8 fun v16 =>
  (if v16 = 0 then
  K57 x0 h
  else
  cV h x0 11 (f_X13_readClause x0 h) fun _ h18 =>
  R57 x0 h18))
theorem o_f_X13_spaces_h57 {X : jx} {b0 : Nat × Nat} {K57 : Nat → jh → Option (Int32 × jh)} (hK57 : ∀ (x0 : Nat) (h : jh), jv_O X M_X13_spaces b0 jeI 78 [some (.ref (x0)), none, none] [] h (K57 x0 h)) : ∀ (x0 : Nat) (h : jh), jv_O X M_X13_spaces b0 jeI 57 [some (.ref (x0)), none, none] [] h (jlp1 (f_X13_spaces_h57 K57) jfu x0 h) := by
  refine jlp1_ok (P := fun x0 h o => jv_O X M_X13_spaces b0 jeI 57 [some (.ref (x0)), none, none] [] h o) (fun R57 hR57 => ?_) (fun _ _  => jv_none rfl) jfu
  intro x0 h
  unfold f_X13_spaces_h57
  refine jv_aload_n (jv_dk t_X13_spaces (k := 33) rfl) rfl rfl (Or.inr ⟨_, rfl⟩) ?_
  refine jv_gI (jv_dk t_X13_spaces (k := 34) rfl) fl_X13_141 (fun v14 => ?_)
  refine jv_if_ne (tgt := 78) (jv_dk t_X13_spaces (k := 35) rfl) rfl (fun c15 => ?_) (fun c15 => ?_)
  · exact hK57 _ _ 
  · show jv_O _ _ _ _ 64 _ _ _ _
    refine jv_aload_n (jv_dk t_X13_spaces (k := 36) rfl) rfl rfl (Or.inr ⟨_, rfl⟩) ?_
    refine jv_gI (jv_dk t_X13_spaces (k := 37) rfl) fl_X13_119 (fun v16 => ?_)
    refine jv_if_eq (tgt := 78) (jv_dk t_X13_spaces (k := 38) rfl) rfl (fun c17 => ?_) (fun c17 => ?_)
    · exact hK57 _ _ 
    · show jv_O _ _ _ _ 71 _ _ _ _
      refine jv_aload_n (jv_dk t_X13_spaces (k := 39) rfl) rfl rfl (Or.inr ⟨_, rfl⟩) ?_
      refine jv_callV (en' := jeV) (pv := jpV) (As := []) (S := []) (jv_dk t_X13_spaces (k := 40) rfl) (fun _ => rfl) (Or.inl lk_X13_188) me_X13_readClause mv_X13_readClause ⟨by decide, by decide⟩ rfl rfl rfl (Nat.le_of_ble_eq_true rfl) (P_X13_readClause X x0 h) (fun _ h18 => ?_)
      show jv_O X M_X13_spaces _ jeI 75 [some (.ref (x0)), none, none] [] h18 _
      refine jv_goto (tgt := 57) (jv_dk t_X13_spaces (k := 41) rfl) rfl ?_
      exact hR57 _ _ 
def f_X13_spaces_h114 (K114 : Nat → jh → Option (Int32 × jh)) (R114 : Nat → Int32 → jh → Option (Int32 × jh)) (x0 : Nat) (x2 : Int32) (h : jh) : Option (Int32 × jh) :=
  gI h x0 11 16 fun v24 =>
  (if (6 * v24) ≤ x2 then
  K114 x0 h
  else
  gR h x0 11 15 fun v26 =>
  aI h v26 x2 fun v27 =>
  gR h x0 11 15 fun v28 =>
  aI h v28 (x2 + 1) fun v29 =>
  gR h x0 11 15 fun v30 =>
  aI h v30 (x2 + 2) fun v31 =>
  gR h x0 11 15 fun v32 =>
  aI h v32 (x2 + 3) fun v33 =>
  gR h x0 11 15 fun v34 =>
  aI h v34 (x2 + 4) fun v35 =>
  gR h x0 11 15 fun v36 =>
  aI h v36 (x2 + 5) fun v37 =>
  cV h x0 11 (f_X13_does x0 v27 v29 v31 v33 v35 v37 h) fun v38 h39 =>
  R114 x0 (x2 + 6) h39)
theorem o_f_X13_spaces_h114 {X : jx} {b0 : Nat × Nat} {K114 : Nat → jh → Option (Int32 × jh)} (hK114 : ∀ (x0 : Nat) (h : jh), jv_O X M_X13_spaces b0 jeI 182 [some (.ref (x0)), none, none] [] h (K114 x0 h)) : ∀ (x0 : Nat) (x2 : Int32) (h : jh), jv_O X M_X13_spaces b0 jeI 114 [some (.ref (x0)), none, some (.int (x2))] [] h (jlp2 (f_X13_spaces_h114 K114) jfu x0 x2 h) := by
  refine jlp2_ok (P := fun x0 x2 h o => jv_O X M_X13_spaces b0 jeI 114 [some (.ref (x0)), none, some (.int (x2))] [] h o) (fun R114 hR114 => ?_) (fun _ _ _  => jv_none rfl) jfu
  intro x0 x2 h
  unfold f_X13_spaces_h114
  refine jv_iload_n (jv_dk t_X13_spaces (k := 64) rfl) rfl rfl ?_
  refine jv_bipush (v := 6) (jv_dk t_X13_spaces (k := 65) rfl) (by decide) ?_
  refine jv_aload_n (jv_dk t_X13_spaces (k := 66) rfl) rfl rfl (Or.inr ⟨_, rfl⟩) ?_
  refine jv_gI (jv_dk t_X13_spaces (k := 67) rfl) fl_X13_176 (fun v24 => ?_)
  refine jv_imul (jv_dk t_X13_spaces (k := 68) rfl) ?_
  refine jv_icmp_ge (tgt := 182) (jv_dk t_X13_spaces (k := 69) rfl) rfl (fun c25 => ?_) (fun c25 => ?_)
  · refine jv_le_row (jv_le_s (jv_le_n (jv_le_n (jv_le_nil)))) ?_
    exact hK114 _ _ 
  · show jv_O _ _ _ _ 125 _ _ _ _
    refine jv_aload_n (jv_dk t_X13_spaces (k := 70) rfl) rfl rfl (Or.inr ⟨_, rfl⟩) ?_
    refine jv_aload_n (jv_dk t_X13_spaces (k := 71) rfl) rfl rfl (Or.inr ⟨_, rfl⟩) ?_
    refine jv_gR (jv_dk t_X13_spaces (k := 72) rfl) fl_X13_51 (fun v26 => ?_)
    refine jv_iload_n (jv_dk t_X13_spaces (k := 73) rfl) rfl rfl ?_
    refine jv_iaload (jv_dk t_X13_spaces (k := 74) rfl) (fun v27 => ?_)
    refine jv_aload_n (jv_dk t_X13_spaces (k := 75) rfl) rfl rfl (Or.inr ⟨_, rfl⟩) ?_
    refine jv_gR (jv_dk t_X13_spaces (k := 76) rfl) fl_X13_51 (fun v28 => ?_)
    refine jv_iload_n (jv_dk t_X13_spaces (k := 77) rfl) rfl rfl ?_
    refine jv_iconst (v := 1) (jv_dk t_X13_spaces (k := 78) rfl) (by decide) ?_
    refine jv_iadd (jv_dk t_X13_spaces (k := 79) rfl) ?_
    refine jv_iaload (jv_dk t_X13_spaces (k := 80) rfl) (fun v29 => ?_)
    refine jv_aload_n (jv_dk t_X13_spaces (k := 81) rfl) rfl rfl (Or.inr ⟨_, rfl⟩) ?_
    refine jv_gR (jv_dk t_X13_spaces (k := 82) rfl) fl_X13_51 (fun v30 => ?_)
    refine jv_iload_n (jv_dk t_X13_spaces (k := 83) rfl) rfl rfl ?_
    refine jv_iconst (v := 2) (jv_dk t_X13_spaces (k := 84) rfl) (by decide) ?_
    refine jv_iadd (jv_dk t_X13_spaces (k := 85) rfl) ?_
    refine jv_iaload (jv_dk t_X13_spaces (k := 86) rfl) (fun v31 => ?_)
    refine jv_aload_n (jv_dk t_X13_spaces (k := 87) rfl) rfl rfl (Or.inr ⟨_, rfl⟩) ?_
    refine jv_gR (jv_dk t_X13_spaces (k := 88) rfl) fl_X13_51 (fun v32 => ?_)
    refine jv_iload_n (jv_dk t_X13_spaces (k := 89) rfl) rfl rfl ?_
    refine jv_iconst (v := 3) (jv_dk t_X13_spaces (k := 90) rfl) (by decide) ?_
    refine jv_iadd (jv_dk t_X13_spaces (k := 91) rfl) ?_
    refine jv_iaload (jv_dk t_X13_spaces (k := 92) rfl) (fun v33 => ?_)
    refine jv_aload_n (jv_dk t_X13_spaces (k := 93) rfl) rfl rfl (Or.inr ⟨_, rfl⟩) ?_
    refine jv_gR (jv_dk t_X13_spaces (k := 94) rfl) fl_X13_51 (fun v34 => ?_)
    refine jv_iload_n (jv_dk t_X13_spaces (k := 95) rfl) rfl rfl ?_
    refine jv_iconst (v := 4) (jv_dk t_X13_spaces (k := 96) rfl) (by decide) ?_
    refine jv_iadd (jv_dk t_X13_spaces (k := 97) rfl) ?_
    refine jv_iaload (jv_dk t_X13_spaces (k := 98) rfl) (fun v35 => ?_)
    refine jv_aload_n (jv_dk t_X13_spaces (k := 99) rfl) rfl rfl (Or.inr ⟨_, rfl⟩) ?_
    refine jv_gR (jv_dk t_X13_spaces (k := 100) rfl) fl_X13_51 (fun v36 => ?_)
    refine jv_iload_n (jv_dk t_X13_spaces (k := 101) rfl) rfl rfl ?_
    refine jv_iconst (v := 5) (jv_dk t_X13_spaces (k := 102) rfl) (by decide) ?_
    refine jv_iadd (jv_dk t_X13_spaces (k := 103) rfl) ?_
    refine jv_iaload (jv_dk t_X13_spaces (k := 104) rfl) (fun v37 => ?_)
    refine jv_callV (en' := jeI) (pv := jpI) (As := [.int (v27), .int (v29), .int (v31), .int (v33), .int (v35), .int (v37)]) (S := []) (jv_dk t_X13_spaces (k := 105) rfl) (fun _ => rfl) (Or.inl lk_X13_191) me_X13_does mv_X13_does ⟨by decide, by decide⟩ rfl rfl rfl (Nat.le_of_ble_eq_true rfl) (P_X13_does X x0 v27 v29 v31 v33 v35 v37 h) (fun v38 h39 => ?_)
    show jv_O X M_X13_spaces _ jeI 175 [some (.ref (x0)), none, some (.int (x2))] [.int (v38)] h39 _
    refine jv_pop (jv_dk t_X13_spaces (k := 106) rfl) rfl ?_
    refine jv_iinc (v := 6) (L' := [some (.ref (x0)), none, some (.int (x2 + 6))]) (jv_dk t_X13_spaces (k := 107) rfl) rfl (by decide) rfl ?_
    refine jv_goto (tgt := 114) (jv_dk t_X13_spaces (k := 108) rfl) rfl ?_
    exact hR114 _ _ _ 
def f_X13_spaces_b78 (x0 : Nat) (h : jh) : Option (Int32 × jh) :=
  gI h x0 11 12 fun v21 =>
  (if v21 = 0 then
  cV h x0 11 (f_X13_layFirst x0 h) fun _ h23 =>
  jlp2 (f_X13_spaces_h114 (fun y41 h40 =>
  pV h40 y41 11 18 (.int (0)) fun h42 =>
  pV h42 y41 11 22 (.int (0)) fun h43 =>
  pV h43 y41 11 27 (.int (0)) fun h44 =>
  some (0, h44))) jfu x0 0 h23
  else
  gI h x0 11 13 fun v45 =>
  pV h x0 11 14 (.int (v45)) fun h46 =>
  gR h46 x0 11 3 fun v47 =>
  aI h46 v47 0 fun v48 =>
  sI h46 v47 0 (v48 + 1) fun h49 =>
  gI h49 x0 11 12 fun v50 =>
  some (v50, h49))
theorem o_f_X13_spaces_b78 {X : jx} {b0 : Nat × Nat} (x0 : Nat) (h : jh) : jv_O X M_X13_spaces b0 jeI 78 [some (.ref (x0)), none, none] [] h (f_X13_spaces_b78 x0 h) := by
  unfold f_X13_spaces_b78
  refine jv_aload_n (jv_dk t_X13_spaces (k := 42) rfl) rfl rfl (Or.inr ⟨_, rfl⟩) ?_
  refine jv_gI (jv_dk t_X13_spaces (k := 43) rfl) fl_X13_141 (fun v21 => ?_)
  refine jv_if_eq (tgt := 108) (jv_dk t_X13_spaces (k := 44) rfl) rfl (fun c22 => ?_) (fun c22 => ?_)
  · refine jv_aload_n (jv_dk t_X13_spaces (k := 60) rfl) rfl rfl (Or.inr ⟨_, rfl⟩) ?_
    refine jv_callV (en' := jeV) (pv := jpV) (As := []) (S := []) (jv_dk t_X13_spaces (k := 61) rfl) (fun _ => rfl) (Or.inl lk_X13_93) me_X13_layFirst mv_X13_layFirst ⟨by decide, by decide⟩ rfl rfl rfl (Nat.le_of_ble_eq_true rfl) (P_X13_layFirst X x0 h) (fun _ h23 => ?_)
    show jv_O X M_X13_spaces _ jeI 112 [some (.ref (x0)), none, none] [] h23 _
    refine jv_iconst (v := 0) (jv_dk t_X13_spaces (k := 62) rfl) (by decide) ?_
    refine jv_istore_n (L' := [some (.ref (x0)), none, some (.int (0))]) (jv_dk t_X13_spaces (k := 63) rfl) rfl (Nat.le_of_ble_eq_true rfl) rfl ?_
    refine o_f_X13_spaces_h114 (fun y41 h40 => ?_) _ _ _ 
    show jv_O X M_X13_spaces _ jeI 182 [some (.ref (y41)), none, none] [] h40 _
    refine jv_aload_n (jv_dk t_X13_spaces (k := 109) rfl) rfl rfl (Or.inr ⟨_, rfl⟩) ?_
    refine jv_iconst (v := 0) (jv_dk t_X13_spaces (k := 110) rfl) (by decide) ?_
    refine jv_pV (jv_dk t_X13_spaces (k := 111) rfl) fl_X13_195 kX13 (Or.inl rfl) rfl rfl rfl (fun h42 => ?_)
    refine jv_aload_n (jv_dk t_X13_spaces (k := 112) rfl) rfl rfl (Or.inr ⟨_, rfl⟩) ?_
    refine jv_iconst (v := 0) (jv_dk t_X13_spaces (k := 113) rfl) (by decide) ?_
    refine jv_pV (jv_dk t_X13_spaces (k := 114) rfl) fl_X13_198 kX13 (Or.inl rfl) rfl rfl rfl (fun h43 => ?_)
    refine jv_aload_n (jv_dk t_X13_spaces (k := 115) rfl) rfl rfl (Or.inr ⟨_, rfl⟩) ?_
    refine jv_iconst (v := 0) (jv_dk t_X13_spaces (k := 116) rfl) (by decide) ?_
    refine jv_pV (jv_dk t_X13_spaces (k := 117) rfl) fl_X13_201 kX13 (Or.inl rfl) rfl rfl rfl (fun h44 => ?_)
    refine jv_iconst (v := 0) (jv_dk t_X13_spaces (k := 118) rfl) (by decide) ?_
    exact jv_iret (ty := .int) (jv_dk t_X13_spaces (k := 119) rfl) rfl rfl rfl
  · show jv_O _ _ _ _ 85 _ _ _ _
    refine jv_aload_n (jv_dk t_X13_spaces (k := 45) rfl) rfl rfl (Or.inr ⟨_, rfl⟩) ?_
    refine jv_aload_n (jv_dk t_X13_spaces (k := 46) rfl) rfl rfl (Or.inr ⟨_, rfl⟩) ?_
    refine jv_gI (jv_dk t_X13_spaces (k := 47) rfl) fl_X13_144 (fun v45 => ?_)
    refine jv_pV (jv_dk t_X13_spaces (k := 48) rfl) fl_X13_47 kX13 (Or.inl rfl) rfl rfl rfl (fun h46 => ?_)
    refine jv_aload_n (jv_dk t_X13_spaces (k := 49) rfl) rfl rfl (Or.inr ⟨_, rfl⟩) ?_
    refine jv_gR (jv_dk t_X13_spaces (k := 50) rfl) fl_X13_41 (fun v47 => ?_)
    refine jv_iconst (v := 0) (jv_dk t_X13_spaces (k := 51) rfl) (by decide) ?_
    refine jv_dup2 (jv_dk t_X13_spaces (k := 52) rfl) rfl rfl ?_
    refine jv_iaload (jv_dk t_X13_spaces (k := 53) rfl) (fun v48 => ?_)
    refine jv_iconst (v := 1) (jv_dk t_X13_spaces (k := 54) rfl) (by decide) ?_
    refine jv_iadd (jv_dk t_X13_spaces (k := 55) rfl) ?_
    refine jv_iastore (jv_dk t_X13_spaces (k := 56) rfl) (fun h49 => ?_)
    refine jv_aload_n (jv_dk t_X13_spaces (k := 57) rfl) rfl rfl (Or.inr ⟨_, rfl⟩) ?_
    refine jv_gI (jv_dk t_X13_spaces (k := 58) rfl) fl_X13_141 (fun v50 => ?_)
    exact jv_iret (ty := .int) (jv_dk t_X13_spaces (k := 59) rfl) rfl rfl rfl
def f_X13_spaces (a0 : Nat) (a1 : Int32) (h : jh) : Option (Int32 × jh) :=
  pV h a0 11 1 (.int (0)) fun h1 =>
  (if a1 < 0 then
  f_X13_spaces_b17 a0 h1
  else
  gI h1 a0 11 5 fun v5 =>
  (if a1 ≤ v5 then
  pV h1 a0 11 5 (.int (0)) fun h7 =>
  pV h7 a0 11 7 (.int (a1)) fun h8 =>
  pV h8 a0 11 6 (.int (0)) fun h9 =>
  pV h9 a0 11 12 (.int (0)) fun h10 =>
  pV h10 a0 11 14 (.int ((-1))) fun h11 =>
  pV h11 a0 11 16 (.int (0)) fun h12 =>
  cV h12 a0 11 (f_X13_stepOn a0 h12) fun _ h13 =>
  jlp1 (f_X13_spaces_h57 (fun y20 h19 =>
  f_X13_spaces_b78 y20 h19)) jfu a0 h13
  else
  f_X13_spaces_b17 a0 h1))
theorem P_X13_spaces (X : jx) (a0 : Nat) (a1 : Int32) (h : jh) : jv_P X M_X13_spaces jeI [.ref (a0), .int (a1)] h (f_X13_spaces a0 a1 h) := by
  refine jv_P.of (by decide) rfl (by simp [Value.category]) (Nat.le_of_ble_eq_true rfl) ?_
  show jv_O X M_X13_spaces (h.1, h.2.1) jeI 0 [some (.ref (a0)), some (.int (a1)), none] [] h (f_X13_spaces a0 a1 h)
  unfold f_X13_spaces
  refine jv_aload_n (jv_dk t_X13_spaces (k := 0) rfl) rfl rfl (Or.inr ⟨_, rfl⟩) ?_
  refine jv_iconst (v := 0) (jv_dk t_X13_spaces (k := 1) rfl) (by decide) ?_
  refine jv_pV (jv_dk t_X13_spaces (k := 2) rfl) fl_X13_96 kX13 (Or.inl rfl) rfl rfl rfl (fun h1 => ?_)
  refine jv_iload_n (jv_dk t_X13_spaces (k := 3) rfl) rfl rfl ?_
  refine jv_if_lt (tgt := 17) (jv_dk t_X13_spaces (k := 4) rfl) rfl (fun c2 => ?_) (fun c2 => ?_)
  · refine jv_le_row (jv_le_s (jv_le_n (jv_le_n (jv_le_nil)))) ?_
    exact o_f_X13_spaces_b17 _ _ 
  · show jv_O _ _ _ _ 9 _ _ _ _
    refine jv_iload_n (jv_dk t_X13_spaces (k := 5) rfl) rfl rfl ?_
    refine jv_aload_n (jv_dk t_X13_spaces (k := 6) rfl) rfl rfl (Or.inr ⟨_, rfl⟩) ?_
    refine jv_gI (jv_dk t_X13_spaces (k := 7) rfl) fl_X13_103 (fun v5 => ?_)
    refine jv_icmp_le (tgt := 23) (jv_dk t_X13_spaces (k := 8) rfl) rfl (fun c6 => ?_) (fun c6 => ?_)
    · refine jv_aload_n (jv_dk t_X13_spaces (k := 13) rfl) rfl rfl (Or.inr ⟨_, rfl⟩) ?_
      refine jv_iconst (v := 0) (jv_dk t_X13_spaces (k := 14) rfl) (by decide) ?_
      refine jv_pV (jv_dk t_X13_spaces (k := 15) rfl) fl_X13_103 kX13 (Or.inl rfl) rfl rfl rfl (fun h7 => ?_)
      refine jv_aload_n (jv_dk t_X13_spaces (k := 16) rfl) rfl rfl (Or.inr ⟨_, rfl⟩) ?_
      refine jv_iload_n (jv_dk t_X13_spaces (k := 17) rfl) rfl rfl ?_
      refine jv_pV (jv_dk t_X13_spaces (k := 18) rfl) fl_X13_106 kX13 (Or.inl rfl) rfl rfl rfl (fun h8 => ?_)
      refine jv_aload_n (jv_dk t_X13_spaces (k := 19) rfl) rfl rfl (Or.inr ⟨_, rfl⟩) ?_
      refine jv_iconst (v := 0) (jv_dk t_X13_spaces (k := 20) rfl) (by decide) ?_
      refine jv_pV (jv_dk t_X13_spaces (k := 21) rfl) fl_X13_109 kX13 (Or.inl rfl) rfl rfl rfl (fun h9 => ?_)
      refine jv_aload_n (jv_dk t_X13_spaces (k := 22) rfl) rfl rfl (Or.inr ⟨_, rfl⟩) ?_
      refine jv_iconst (v := 0) (jv_dk t_X13_spaces (k := 23) rfl) (by decide) ?_
      refine jv_pV (jv_dk t_X13_spaces (k := 24) rfl) fl_X13_141 kX13 (Or.inl rfl) rfl rfl rfl (fun h10 => ?_)
      refine jv_aload_n (jv_dk t_X13_spaces (k := 25) rfl) rfl rfl (Or.inr ⟨_, rfl⟩) ?_
      refine jv_iconst (v := (-1)) (jv_dk t_X13_spaces (k := 26) rfl) (by decide) ?_
      refine jv_pV (jv_dk t_X13_spaces (k := 27) rfl) fl_X13_47 kX13 (Or.inl rfl) rfl rfl rfl (fun h11 => ?_)
      refine jv_aload_n (jv_dk t_X13_spaces (k := 28) rfl) rfl rfl (Or.inr ⟨_, rfl⟩) ?_
      refine jv_iconst (v := 0) (jv_dk t_X13_spaces (k := 29) rfl) (by decide) ?_
      refine jv_pV (jv_dk t_X13_spaces (k := 30) rfl) fl_X13_176 kX13 (Or.inl rfl) rfl rfl rfl (fun h12 => ?_)
      refine jv_aload_n (jv_dk t_X13_spaces (k := 31) rfl) rfl rfl (Or.inr ⟨_, rfl⟩) ?_
      refine jv_callV (en' := jeV) (pv := jpV) (As := []) (S := []) (jv_dk t_X13_spaces (k := 32) rfl) (fun _ => rfl) (Or.inl lk_X13_163) me_X13_stepOn mv_X13_stepOn ⟨by decide, by decide⟩ rfl rfl rfl (Nat.le_of_ble_eq_true rfl) (P_X13_stepOn X a0 h12) (fun _ h13 => ?_)
      show jv_O X M_X13_spaces _ jeI 57 [some (.ref (a0)), some (.int (a1)), none] [] h13 _
      refine jv_le_row (jv_le_s (jv_le_n (jv_le_n (jv_le_nil)))) ?_
      refine o_f_X13_spaces_h57 (fun y20 h19 => ?_) _ _ 
      show jv_O X M_X13_spaces _ jeI 78 [some (.ref (y20)), none, none] [] h19 _
      exact o_f_X13_spaces_b78 _ _ 
    · show jv_O _ _ _ _ 17 _ _ _ _
      refine jv_le_row (jv_le_s (jv_le_n (jv_le_n (jv_le_nil)))) ?_
      exact o_f_X13_spaces_b17 _ _ 
def t0_X13_fault : List (Nat × Instr × Nat) := [(0, .aload_n 0, 1), (1, .iconst 0, 1), (2, .putfield 96, 3), (5, .aload_n 0, 1), (6, .getfield 47, 3), (9, .ireturn, 1)]
theorem t_X13_fault : jv_dec cX13_fault t0_X13_fault = true := by decide +kernel
def M_X13_fault : jm := (yX13_fault, cX13_fault, 1, (some .int), 0, 0, [])
def f_X13_fault (a0 : Nat) (h : jh) : Option (Int32 × jh) :=
  pV h a0 11 1 (.int (0)) fun h1 =>
  gI h1 a0 11 14 fun v2 =>
  some (v2, h1)
theorem P_X13_fault (X : jx) (a0 : Nat) (h : jh) : jv_P X M_X13_fault jeI [.ref (a0)] h (f_X13_fault a0 h) := by
  refine jv_P.of (by decide) rfl (by simp [Value.category]) (Nat.le_of_ble_eq_true rfl) ?_
  show jv_O X M_X13_fault (h.1, h.2.1) jeI 0 [some (.ref (a0))] [] h (f_X13_fault a0 h)
  unfold f_X13_fault
  refine jv_aload_n (jv_dk t_X13_fault (k := 0) rfl) rfl rfl (Or.inr ⟨_, rfl⟩) ?_
  refine jv_iconst (v := 0) (jv_dk t_X13_fault (k := 1) rfl) (by decide) ?_
  refine jv_pV (jv_dk t_X13_fault (k := 2) rfl) fl_X13_96 kX13 (Or.inl rfl) rfl rfl rfl (fun h1 => ?_)
  refine jv_aload_n (jv_dk t_X13_fault (k := 3) rfl) rfl rfl (Or.inr ⟨_, rfl⟩) ?_
  refine jv_gI (jv_dk t_X13_fault (k := 4) rfl) fl_X13_47 (fun v2 => ?_)
  exact jv_iret (ty := .int) (jv_dk t_X13_fault (k := 5) rfl) rfl rfl rfl
def t0_X13_refuse : List (Nat × Instr × Nat) := [(0, .aload_n 0, 1), (1, .getfield 41, 3), (4, .iload_n 1, 1), (5, .dup2, 1), (6, .iaload, 1), (7, .iconst 1, 1), (8, .iadd, 1), (9, .iastore, 1), (10, .iconst (-1), 1), (11, .ireturn, 1)]
theorem t_X13_refuse : jv_dec cX13_refuse t0_X13_refuse = true := by decide +kernel
def M_X13_refuse : jm := (yX13_refuse, cX13_refuse, 2, (some .int), 0, 0, [])
def f_X13_refuse (a0 : Nat) (a1 : Int32) (h : jh) : Option (Int32 × jh) :=
  gR h a0 11 3 fun v1 =>
  aI h v1 a1 fun v2 =>
  sI h v1 a1 (v2 + 1) fun h3 =>
  some ((-1), h3)
theorem P_X13_refuse (X : jx) (a0 : Nat) (a1 : Int32) (h : jh) : jv_P X M_X13_refuse jeI [.ref (a0), .int (a1)] h (f_X13_refuse a0 a1 h) := by
  refine jv_P.of (by decide) rfl (by simp [Value.category]) (Nat.le_of_ble_eq_true rfl) ?_
  show jv_O X M_X13_refuse (h.1, h.2.1) jeI 0 [some (.ref (a0)), some (.int (a1))] [] h (f_X13_refuse a0 a1 h)
  unfold f_X13_refuse
  refine jv_aload_n (jv_dk t_X13_refuse (k := 0) rfl) rfl rfl (Or.inr ⟨_, rfl⟩) ?_
  refine jv_gR (jv_dk t_X13_refuse (k := 1) rfl) fl_X13_41 (fun v1 => ?_)
  refine jv_iload_n (jv_dk t_X13_refuse (k := 2) rfl) rfl rfl ?_
  refine jv_dup2 (jv_dk t_X13_refuse (k := 3) rfl) rfl rfl ?_
  refine jv_iaload (jv_dk t_X13_refuse (k := 4) rfl) (fun v2 => ?_)
  refine jv_iconst (v := 1) (jv_dk t_X13_refuse (k := 5) rfl) (by decide) ?_
  refine jv_iadd (jv_dk t_X13_refuse (k := 6) rfl) ?_
  refine jv_iastore (jv_dk t_X13_refuse (k := 7) rfl) (fun h3 => ?_)
  refine jv_iconst (v := (-1)) (jv_dk t_X13_refuse (k := 8) rfl) (by decide) ?_
  exact jv_iret (ty := .int) (jv_dk t_X13_refuse (k := 9) rfl) rfl rfl rfl
def t0_X13_copyTo : List (Nat × Instr × Nat) := [(0, .iconst 0, 1), (1, .istore_n 2, 1), (2, .iload_n 2, 1), (3, .aload_n 0, 1), (4, .arraylength, 1), (5, .if_icmp .ge 15, 3), (8, .aload_n 0, 1), (9, .iload_n 2, 1), (10, .aload_n 1, 1), (11, .iload_n 2, 1), (12, .iaload, 1), (13, .iastore, 1), (14, .iinc 2 1, 3), (17, .goto (-15), 3), (20, .return_, 1)]
theorem t_X13_copyTo : jv_dec cX13_copyTo t0_X13_copyTo = true := by decide +kernel
def M_X13_copyTo : jm := (yX13_copyTo, cX13_copyTo, 3, none, 0, 0, [])
def f_X13_copyTo_h2 (K2 : jh → Option (Unit × jh)) (R2 : Nat → Nat → Int32 → jh → Option (Unit × jh)) (x0 : Nat) (x1 : Nat) (x2 : Int32) (h : jh) : Option (Unit × jh) :=
  lnI h x0 fun v1 =>
  (if v1 ≤ x2 then
  K2  h
  else
  aI h x1 x2 fun v3 =>
  sI h x0 x2 v3 fun h4 =>
  R2 x0 x1 (x2 + 1) h4)
theorem o_f_X13_copyTo_h2 {X : jx} {b0 : Nat × Nat} {K2 : jh → Option (Unit × jh)} (hK2 : ∀  (h : jh), jv_O X M_X13_copyTo b0 jeV 20 [none, none, none] [] h (K2  h)) : ∀ (x0 : Nat) (x1 : Nat) (x2 : Int32) (h : jh), jv_O X M_X13_copyTo b0 jeV 2 [some (.ref (x0)), some (.ref (x1)), some (.int (x2))] [] h (jlp3 (f_X13_copyTo_h2 K2) jfu x0 x1 x2 h) := by
  refine jlp3_ok (P := fun x0 x1 x2 h o => jv_O X M_X13_copyTo b0 jeV 2 [some (.ref (x0)), some (.ref (x1)), some (.int (x2))] [] h o) (fun R2 hR2 => ?_) (fun _ _ _ _  => jv_none rfl) jfu
  intro x0 x1 x2 h
  unfold f_X13_copyTo_h2
  refine jv_iload_n (jv_dk t_X13_copyTo (k := 2) rfl) rfl rfl ?_
  refine jv_aload_n (jv_dk t_X13_copyTo (k := 3) rfl) rfl rfl (Or.inr ⟨_, rfl⟩) ?_
  refine jv_lnI (jv_dk t_X13_copyTo (k := 4) rfl) (fun v1 => ?_)
  refine jv_icmp_ge (tgt := 20) (jv_dk t_X13_copyTo (k := 5) rfl) rfl (fun c2 => ?_) (fun c2 => ?_)
  · refine jv_le_row (jv_le_n (jv_le_n (jv_le_n (jv_le_nil)))) ?_
    exact hK2 _ 
  · show jv_O _ _ _ _ 8 _ _ _ _
    refine jv_aload_n (jv_dk t_X13_copyTo (k := 6) rfl) rfl rfl (Or.inr ⟨_, rfl⟩) ?_
    refine jv_iload_n (jv_dk t_X13_copyTo (k := 7) rfl) rfl rfl ?_
    refine jv_aload_n (jv_dk t_X13_copyTo (k := 8) rfl) rfl rfl (Or.inr ⟨_, rfl⟩) ?_
    refine jv_iload_n (jv_dk t_X13_copyTo (k := 9) rfl) rfl rfl ?_
    refine jv_iaload (jv_dk t_X13_copyTo (k := 10) rfl) (fun v3 => ?_)
    refine jv_iastore (jv_dk t_X13_copyTo (k := 11) rfl) (fun h4 => ?_)
    refine jv_iinc (v := 1) (L' := [some (.ref (x0)), some (.ref (x1)), some (.int (x2 + 1))]) (jv_dk t_X13_copyTo (k := 12) rfl) rfl (by decide) rfl ?_
    refine jv_goto (tgt := 2) (jv_dk t_X13_copyTo (k := 13) rfl) rfl ?_
    exact hR2 _ _ _ _ 
def f_X13_copyTo (a0 : Nat) (a1 : Nat) (h : jh) : Option (Unit × jh) :=
  jlp3 (f_X13_copyTo_h2 (fun  h5 =>
  some ((), h5))) jfu a0 a1 0 h
theorem P_X13_copyTo (X : jx) (a0 : Nat) (a1 : Nat) (h : jh) : jv_P X M_X13_copyTo jeV [.ref (a0), .ref (a1)] h (f_X13_copyTo a0 a1 h) := by
  refine jv_P.of (by decide) rfl (by simp [Value.category]) (Nat.le_of_ble_eq_true rfl) ?_
  show jv_O X M_X13_copyTo (h.1, h.2.1) jeV 0 [some (.ref (a0)), some (.ref (a1)), none] [] h (f_X13_copyTo a0 a1 h)
  unfold f_X13_copyTo
  refine jv_iconst (v := 0) (jv_dk t_X13_copyTo (k := 0) rfl) (by decide) ?_
  refine jv_istore_n (L' := [some (.ref (a0)), some (.ref (a1)), some (.int (0))]) (jv_dk t_X13_copyTo (k := 1) rfl) rfl (Nat.le_of_ble_eq_true rfl) rfl ?_
  refine o_f_X13_copyTo_h2 (fun  h5 => ?_) _ _ _ _ 
  show jv_O X M_X13_copyTo _ jeV 20 [none, none, none] [] h5 _
  exact jv_vret (jv_dk t_X13_copyTo (k := 14) rfl) rfl rfl
def t0_X13_act : List (Nat × Instr × Nat) := [(0, .aload_n 0, 1), (1, .getfield 60, 3), (4, .aload_n 0, 1), (5, .getfield 37, 3), (8, .invokestatic 323, 3), (11, .aload_n 0, 1), (12, .iload_n 1, 1), (13, .iload_n 2, 1), (14, .iload_n 3, 1), (15, .iload 4, 2), (17, .iload 5, 2), (19, .iload 6, 2), (21, .invokevirtual 191, 3), (24, .istore 7, 2), (26, .iload 7, 2), (28, .iconst (-1), 1), (29, .if_icmp .ne 9, 3), (32, .aload_n 0, 1), (33, .iconst 1, 1), (34, .invokevirtual 327, 3), (37, .ireturn, 1), (38, .aload_n 0, 1), (39, .getfield 195, 3), (42, .bipush 40, 2), (44, .if_icmp .ne 52, 3), (47, .sipush 595, 3), (50, .istore 8, 2), (52, .iload 8, 2), (54, .aload_n 0, 1), (55, .getfield 57, 3), (58, .arraylength, 1), (59, .if_icmp .ge 27, 3), (62, .aload_n 0, 1), (63, .getfield 57, 3), (66, .iload 8, 2), (68, .sipush 595, 3), (71, .isub, 1), (72, .aload_n 0, 1), (73, .getfield 57, 3), (76, .iload 8, 2), (78, .iaload, 1), (79, .iastore, 1), (80, .iinc 8 1, 3), (83, .goto (-31), 3), (86, .aload_n 0, 1), (87, .dup, 1), (88, .getfield 195, 3), (91, .iconst 1, 1), (92, .isub, 1), (93, .putfield 195, 3), (96, .iconst 0, 1), (97, .istore 8, 2), (99, .iload 8, 2), (101, .sipush 595, 3), (104, .if_icmp .ge 32, 3), (107, .aload_n 0, 1), (108, .getfield 57, 3), (111, .sipush 595, 3), (114, .aload_n 0, 1), (115, .getfield 195, 3), (118, .imul, 1), (119, .iload 8, 2), (121, .iadd, 1), (122, .aload_n 0, 1), (123, .getfield 60, 3), (126, .iload 8, 2), (128, .iaload, 1), (129, .iastore, 1), (130, .iinc 8 1, 3), (133, .goto (-34), 3), (136, .aload_n 0, 1), (137, .dup, 1), (138, .getfield 195, 3), (141, .iconst 1, 1), (142, .iadd, 1), (143, .putfield 195, 3), (146, .iload 7, 2), (148, .ireturn, 1)]
theorem t_X13_act : jv_dec cX13_act t0_X13_act = true := by decide +kernel
def M_X13_act : jm := (yX13_act, cX13_act, 9, (some .int), 7, 174, [])
theorem lk_X13_323 : Cond.methodLink RX13 323 M_X13_copyTo.1 ∈ lw_tbl := (jv_at 1708 (by decide +kernel))
set_option maxRecDepth 20000 in
theorem me_X13_copyTo : jv_me M_X13_copyTo 2 := ⟨(jv_in7 (List.mem_of_getElem? (i := 110) rfl)), (jv_at 172 (by decide +kernel)), ⟨by decide, by decide⟩, by decide +kernel⟩
theorem lk_X13_327 : Cond.methodLink RX13 327 M_X13_refuse.1 ∈ lw_tbl := (jv_at 1711 (by decide +kernel))
set_option maxRecDepth 20000 in
theorem me_X13_refuse : jv_me M_X13_refuse 1 := ⟨(jv_in7 (List.mem_of_getElem? (i := 114) rfl)), (jv_at 172 (by decide +kernel)), ⟨by decide, by decide⟩, by decide +kernel⟩
theorem mv_X13_refuse : jv_mv M_X13_refuse := ⟨(jv_at 1713 (by decide +kernel)), (jv_at 142 (by decide +kernel))⟩
theorem ms_X13_copyTo : jv_ms M_X13_copyTo := (jv_at 1709 (by decide +kernel))
def f_X13_act_h99 (K99 : Nat → Int32 → jh → Option (Int32 × jh)) (R99 : Nat → Int32 → Int32 → jh → Option (Int32 × jh)) (x0 : Nat) (x7 : Int32) (x8 : Int32) (h : jh) : Option (Int32 × jh) :=
  (if 595 ≤ x8 then
  K99 x0 x7 h
  else
  gR h x0 11 19 fun v10 =>
  gI h x0 11 18 fun v11 =>
  gR h x0 11 20 fun v12 =>
  aI h v12 x8 fun v13 =>
  sI h v10 ((595 * v11) + x8) v13 fun h14 =>
  R99 x0 x7 (x8 + 1) h14)
theorem o_f_X13_act_h99 {X : jx} {b0 : Nat × Nat} {K99 : Nat → Int32 → jh → Option (Int32 × jh)} (hK99 : ∀ (x0 : Nat) (x7 : Int32) (h : jh), jv_O X M_X13_act b0 jeI 136 [some (.ref (x0)), none, none, none, none, none, none, some (.int (x7)), none] [] h (K99 x0 x7 h)) : ∀ (x0 : Nat) (x7 : Int32) (x8 : Int32) (h : jh), jv_O X M_X13_act b0 jeI 99 [some (.ref (x0)), none, none, none, none, none, none, some (.int (x7)), some (.int (x8))] [] h (jlp3 (f_X13_act_h99 K99) jfu x0 x7 x8 h) := by
  refine jlp3_ok (P := fun x0 x7 x8 h o => jv_O X M_X13_act b0 jeI 99 [some (.ref (x0)), none, none, none, none, none, none, some (.int (x7)), some (.int (x8))] [] h o) (fun R99 hR99 => ?_) (fun _ _ _ _  => jv_none rfl) jfu
  intro x0 x7 x8 h
  unfold f_X13_act_h99
  refine jv_iload (jv_dk t_X13_act (k := 52) rfl) rfl ?_
  refine jv_sipush (v := 595) (jv_dk t_X13_act (k := 53) rfl) (by decide) ?_
  refine jv_icmp_ge (tgt := 136) (jv_dk t_X13_act (k := 54) rfl) rfl (fun c9 => ?_) (fun c9 => ?_)
  · refine jv_le_row (jv_le_s (jv_le_n (jv_le_n (jv_le_n (jv_le_n (jv_le_n (jv_le_n (jv_le_s (jv_le_n (jv_le_nil)))))))))) ?_
    exact hK99 _ _ _ 
  · show jv_O _ _ _ _ 107 _ _ _ _
    refine jv_aload_n (jv_dk t_X13_act (k := 55) rfl) rfl rfl (Or.inr ⟨_, rfl⟩) ?_
    refine jv_gR (jv_dk t_X13_act (k := 56) rfl) fl_X13_57 (fun v10 => ?_)
    refine jv_sipush (v := 595) (jv_dk t_X13_act (k := 57) rfl) (by decide) ?_
    refine jv_aload_n (jv_dk t_X13_act (k := 58) rfl) rfl rfl (Or.inr ⟨_, rfl⟩) ?_
    refine jv_gI (jv_dk t_X13_act (k := 59) rfl) fl_X13_195 (fun v11 => ?_)
    refine jv_imul (jv_dk t_X13_act (k := 60) rfl) ?_
    refine jv_iload (jv_dk t_X13_act (k := 61) rfl) rfl ?_
    refine jv_iadd (jv_dk t_X13_act (k := 62) rfl) ?_
    refine jv_aload_n (jv_dk t_X13_act (k := 63) rfl) rfl rfl (Or.inr ⟨_, rfl⟩) ?_
    refine jv_gR (jv_dk t_X13_act (k := 64) rfl) fl_X13_60 (fun v12 => ?_)
    refine jv_iload (jv_dk t_X13_act (k := 65) rfl) rfl ?_
    refine jv_iaload (jv_dk t_X13_act (k := 66) rfl) (fun v13 => ?_)
    refine jv_iastore (jv_dk t_X13_act (k := 67) rfl) (fun h14 => ?_)
    refine jv_iinc (v := 1) (L' := [some (.ref (x0)), none, none, none, none, none, none, some (.int (x7)), some (.int (x8 + 1))]) (jv_dk t_X13_act (k := 68) rfl) rfl (by decide) rfl ?_
    refine jv_goto (tgt := 99) (jv_dk t_X13_act (k := 69) rfl) rfl ?_
    exact hR99 _ _ _ _ 
def f_X13_act_h52 (K52 : Nat → Int32 → jh → Option (Int32 × jh)) (R52 : Nat → Int32 → Int32 → jh → Option (Int32 × jh)) (x0 : Nat) (x7 : Int32) (x8 : Int32) (h : jh) : Option (Int32 × jh) :=
  gR h x0 11 19 fun v20 =>
  lnI h v20 fun v21 =>
  (if v21 ≤ x8 then
  K52 x0 x7 h
  else
  gR h x0 11 19 fun v23 =>
  gR h x0 11 19 fun v24 =>
  aI h v24 x8 fun v25 =>
  sI h v23 (x8 - 595) v25 fun h26 =>
  R52 x0 x7 (x8 + 1) h26)
theorem o_f_X13_act_h52 {X : jx} {b0 : Nat × Nat} {K52 : Nat → Int32 → jh → Option (Int32 × jh)} (hK52 : ∀ (x0 : Nat) (x7 : Int32) (h : jh), jv_O X M_X13_act b0 jeI 86 [some (.ref (x0)), none, none, none, none, none, none, some (.int (x7)), none] [] h (K52 x0 x7 h)) : ∀ (x0 : Nat) (x7 : Int32) (x8 : Int32) (h : jh), jv_O X M_X13_act b0 jeI 52 [some (.ref (x0)), none, none, none, none, none, none, some (.int (x7)), some (.int (x8))] [] h (jlp3 (f_X13_act_h52 K52) jfu x0 x7 x8 h) := by
  refine jlp3_ok (P := fun x0 x7 x8 h o => jv_O X M_X13_act b0 jeI 52 [some (.ref (x0)), none, none, none, none, none, none, some (.int (x7)), some (.int (x8))] [] h o) (fun R52 hR52 => ?_) (fun _ _ _ _  => jv_none rfl) jfu
  intro x0 x7 x8 h
  unfold f_X13_act_h52
  refine jv_iload (jv_dk t_X13_act (k := 27) rfl) rfl ?_
  refine jv_aload_n (jv_dk t_X13_act (k := 28) rfl) rfl rfl (Or.inr ⟨_, rfl⟩) ?_
  refine jv_gR (jv_dk t_X13_act (k := 29) rfl) fl_X13_57 (fun v20 => ?_)
  refine jv_lnI (jv_dk t_X13_act (k := 30) rfl) (fun v21 => ?_)
  refine jv_icmp_ge (tgt := 86) (jv_dk t_X13_act (k := 31) rfl) rfl (fun c22 => ?_) (fun c22 => ?_)
  · refine jv_le_row (jv_le_s (jv_le_n (jv_le_n (jv_le_n (jv_le_n (jv_le_n (jv_le_n (jv_le_s (jv_le_n (jv_le_nil)))))))))) ?_
    exact hK52 _ _ _ 
  · show jv_O _ _ _ _ 62 _ _ _ _
    refine jv_aload_n (jv_dk t_X13_act (k := 32) rfl) rfl rfl (Or.inr ⟨_, rfl⟩) ?_
    refine jv_gR (jv_dk t_X13_act (k := 33) rfl) fl_X13_57 (fun v23 => ?_)
    refine jv_iload (jv_dk t_X13_act (k := 34) rfl) rfl ?_
    refine jv_sipush (v := 595) (jv_dk t_X13_act (k := 35) rfl) (by decide) ?_
    refine jv_isub (jv_dk t_X13_act (k := 36) rfl) ?_
    refine jv_aload_n (jv_dk t_X13_act (k := 37) rfl) rfl rfl (Or.inr ⟨_, rfl⟩) ?_
    refine jv_gR (jv_dk t_X13_act (k := 38) rfl) fl_X13_57 (fun v24 => ?_)
    refine jv_iload (jv_dk t_X13_act (k := 39) rfl) rfl ?_
    refine jv_iaload (jv_dk t_X13_act (k := 40) rfl) (fun v25 => ?_)
    refine jv_iastore (jv_dk t_X13_act (k := 41) rfl) (fun h26 => ?_)
    refine jv_iinc (v := 1) (L' := [some (.ref (x0)), none, none, none, none, none, none, some (.int (x7)), some (.int (x8 + 1))]) (jv_dk t_X13_act (k := 42) rfl) rfl (by decide) rfl ?_
    refine jv_goto (tgt := 52) (jv_dk t_X13_act (k := 43) rfl) rfl ?_
    exact hR52 _ _ _ _ 
def f_X13_act (a0 : Nat) (a1 : Int32) (a2 : Int32) (a3 : Int32) (a4 : Int32) (a5 : Int32) (a6 : Int32) (h : jh) : Option (Int32 × jh) :=
  gR h a0 11 20 fun v1 =>
  gR h a0 11 2 fun v2 =>
  bd (f_X13_copyTo v1 v2 h) fun _ h3 =>
  cV h3 a0 11 (f_X13_does a0 a1 a2 a3 a4 a5 a6 h3) fun v4 h5 =>
  (if ¬ v4 = (-1) then
  gI h5 a0 11 18 fun v7 =>
  (if ¬ v7 = 40 then
  jlp3 (f_X13_act_h99 (fun y16 y17 h15 =>
  gI h15 y16 11 18 fun v18 =>
  pV h15 y16 11 18 (.int (v18 + 1)) fun h19 =>
  some (y17, h19))) jfu a0 v4 0 h5
  else
  jlp3 (f_X13_act_h52 (fun y28 y29 h27 =>
  gI h27 y28 11 18 fun v30 =>
  pV h27 y28 11 18 (.int (v30 - 1)) fun h31 =>
  jlp3 (f_X13_act_h99 (fun y33 y34 h32 =>
  gI h32 y33 11 18 fun v35 =>
  pV h32 y33 11 18 (.int (v35 + 1)) fun h36 =>
  some (y34, h36))) jfu y28 y29 0 h31)) jfu a0 v4 595 h5)
  else
  cV h5 a0 11 (f_X13_refuse a0 1 h5) fun v37 h38 =>
  some (v37, h38))
theorem P_X13_act (X : jx) (a0 : Nat) (a1 : Int32) (a2 : Int32) (a3 : Int32) (a4 : Int32) (a5 : Int32) (a6 : Int32) (h : jh) : jv_P X M_X13_act jeI [.ref (a0), .int (a1), .int (a2), .int (a3), .int (a4), .int (a5), .int (a6)] h (f_X13_act a0 a1 a2 a3 a4 a5 a6 h) := by
  refine jv_P.of (by decide) rfl (by simp [Value.category]) (Nat.le_of_ble_eq_true rfl) ?_
  show jv_O X M_X13_act (h.1, h.2.1) jeI 0 [some (.ref (a0)), some (.int (a1)), some (.int (a2)), some (.int (a3)), some (.int (a4)), some (.int (a5)), some (.int (a6)), none, none] [] h (f_X13_act a0 a1 a2 a3 a4 a5 a6 h)
  unfold f_X13_act
  refine jv_aload_n (jv_dk t_X13_act (k := 0) rfl) rfl rfl (Or.inr ⟨_, rfl⟩) ?_
  refine jv_gR (jv_dk t_X13_act (k := 1) rfl) fl_X13_60 (fun v1 => ?_)
  refine jv_aload_n (jv_dk t_X13_act (k := 2) rfl) rfl rfl (Or.inr ⟨_, rfl⟩) ?_
  refine jv_gR (jv_dk t_X13_act (k := 3) rfl) fl_X13_37 (fun v2 => ?_)
  refine jv_callS (en' := jeV) (pv := jpV) (As := [.ref (v1), .ref (v2)]) (S := []) (jv_dk t_X13_act (k := 4) rfl) (fun _ => rfl) (Or.inl lk_X13_323) me_X13_copyTo ms_X13_copyTo ⟨by decide, by decide⟩ rfl rfl (Nat.le_of_ble_eq_true rfl) (P_X13_copyTo X v1 v2 h) (fun _ h3 => ?_)
  show jv_O X M_X13_act _ jeI 11 [some (.ref (a0)), some (.int (a1)), some (.int (a2)), some (.int (a3)), some (.int (a4)), some (.int (a5)), some (.int (a6)), none, none] [] h3 _
  refine jv_aload_n (jv_dk t_X13_act (k := 5) rfl) rfl rfl (Or.inr ⟨_, rfl⟩) ?_
  refine jv_iload_n (jv_dk t_X13_act (k := 6) rfl) rfl rfl ?_
  refine jv_iload_n (jv_dk t_X13_act (k := 7) rfl) rfl rfl ?_
  refine jv_iload_n (jv_dk t_X13_act (k := 8) rfl) rfl rfl ?_
  refine jv_iload (jv_dk t_X13_act (k := 9) rfl) rfl ?_
  refine jv_iload (jv_dk t_X13_act (k := 10) rfl) rfl ?_
  refine jv_iload (jv_dk t_X13_act (k := 11) rfl) rfl ?_
  refine jv_callV (en' := jeI) (pv := jpI) (As := [.int (a1), .int (a2), .int (a3), .int (a4), .int (a5), .int (a6)]) (S := []) (jv_dk t_X13_act (k := 12) rfl) (fun _ => rfl) (Or.inl lk_X13_191) me_X13_does mv_X13_does ⟨by decide, by decide⟩ rfl rfl rfl (Nat.le_of_ble_eq_true rfl) (P_X13_does X a0 a1 a2 a3 a4 a5 a6 h3) (fun v4 h5 => ?_)
  show jv_O X M_X13_act _ jeI 24 [some (.ref (a0)), some (.int (a1)), some (.int (a2)), some (.int (a3)), some (.int (a4)), some (.int (a5)), some (.int (a6)), none, none] [.int (v4)] h5 _
  refine jv_istore (L' := [some (.ref (a0)), some (.int (a1)), some (.int (a2)), some (.int (a3)), some (.int (a4)), some (.int (a5)), some (.int (a6)), some (.int (v4)), none]) (jv_dk t_X13_act (k := 13) rfl) (Nat.le_of_ble_eq_true rfl) rfl ?_
  refine jv_iload (jv_dk t_X13_act (k := 14) rfl) rfl ?_
  refine jv_iconst (v := (-1)) (jv_dk t_X13_act (k := 15) rfl) (by decide) ?_
  refine jv_icmp_ne (tgt := 38) (jv_dk t_X13_act (k := 16) rfl) rfl (fun c6 => ?_) (fun c6 => ?_)
  · refine jv_aload_n (jv_dk t_X13_act (k := 21) rfl) rfl rfl (Or.inr ⟨_, rfl⟩) ?_
    refine jv_gI (jv_dk t_X13_act (k := 22) rfl) fl_X13_195 (fun v7 => ?_)
    refine jv_bipush (v := 40) (jv_dk t_X13_act (k := 23) rfl) (by decide) ?_
    refine jv_icmp_ne (tgt := 96) (jv_dk t_X13_act (k := 24) rfl) rfl (fun c8 => ?_) (fun c8 => ?_)
    · refine jv_iconst (v := 0) (jv_dk t_X13_act (k := 50) rfl) (by decide) ?_
      refine jv_istore (L' := [some (.ref (a0)), some (.int (a1)), some (.int (a2)), some (.int (a3)), some (.int (a4)), some (.int (a5)), some (.int (a6)), some (.int (v4)), some (.int (0))]) (jv_dk t_X13_act (k := 51) rfl) (Nat.le_of_ble_eq_true rfl) rfl ?_
      refine jv_le_row (jv_le_s (jv_le_n (jv_le_n (jv_le_n (jv_le_n (jv_le_n (jv_le_n (jv_le_s (jv_le_s (jv_le_nil)))))))))) ?_
      refine o_f_X13_act_h99 (fun y16 y17 h15 => ?_) _ _ _ _ 
      show jv_O X M_X13_act _ jeI 136 [some (.ref (y16)), none, none, none, none, none, none, some (.int (y17)), none] [] h15 _
      refine jv_aload_n (jv_dk t_X13_act (k := 70) rfl) rfl rfl (Or.inr ⟨_, rfl⟩) ?_
      refine jv_dup (jv_dk t_X13_act (k := 71) rfl) rfl ?_
      refine jv_gI (jv_dk t_X13_act (k := 72) rfl) fl_X13_195 (fun v18 => ?_)
      refine jv_iconst (v := 1) (jv_dk t_X13_act (k := 73) rfl) (by decide) ?_
      refine jv_iadd (jv_dk t_X13_act (k := 74) rfl) ?_
      refine jv_pV (jv_dk t_X13_act (k := 75) rfl) fl_X13_195 kX13 (Or.inl rfl) rfl rfl rfl (fun h19 => ?_)
      refine jv_iload (jv_dk t_X13_act (k := 76) rfl) rfl ?_
      exact jv_iret (ty := .int) (jv_dk t_X13_act (k := 77) rfl) rfl rfl rfl
    · show jv_O _ _ _ _ 47 _ _ _ _
      refine jv_sipush (v := 595) (jv_dk t_X13_act (k := 25) rfl) (by decide) ?_
      refine jv_istore (L' := [some (.ref (a0)), some (.int (a1)), some (.int (a2)), some (.int (a3)), some (.int (a4)), some (.int (a5)), some (.int (a6)), some (.int (v4)), some (.int (595))]) (jv_dk t_X13_act (k := 26) rfl) (Nat.le_of_ble_eq_true rfl) rfl ?_
      refine jv_le_row (jv_le_s (jv_le_n (jv_le_n (jv_le_n (jv_le_n (jv_le_n (jv_le_n (jv_le_s (jv_le_s (jv_le_nil)))))))))) ?_
      refine o_f_X13_act_h52 (fun y28 y29 h27 => ?_) _ _ _ _ 
      show jv_O X M_X13_act _ jeI 86 [some (.ref (y28)), none, none, none, none, none, none, some (.int (y29)), none] [] h27 _
      refine jv_aload_n (jv_dk t_X13_act (k := 44) rfl) rfl rfl (Or.inr ⟨_, rfl⟩) ?_
      refine jv_dup (jv_dk t_X13_act (k := 45) rfl) rfl ?_
      refine jv_gI (jv_dk t_X13_act (k := 46) rfl) fl_X13_195 (fun v30 => ?_)
      refine jv_iconst (v := 1) (jv_dk t_X13_act (k := 47) rfl) (by decide) ?_
      refine jv_isub (jv_dk t_X13_act (k := 48) rfl) ?_
      refine jv_pV (jv_dk t_X13_act (k := 49) rfl) fl_X13_195 kX13 (Or.inl rfl) rfl rfl rfl (fun h31 => ?_)
      refine jv_iconst (v := 0) (jv_dk t_X13_act (k := 50) rfl) (by decide) ?_
      refine jv_istore (L' := [some (.ref (y28)), none, none, none, none, none, none, some (.int (y29)), some (.int (0))]) (jv_dk t_X13_act (k := 51) rfl) (Nat.le_of_ble_eq_true rfl) rfl ?_
      refine o_f_X13_act_h99 (fun y33 y34 h32 => ?_) _ _ _ _ 
      show jv_O X M_X13_act _ jeI 136 [some (.ref (y33)), none, none, none, none, none, none, some (.int (y34)), none] [] h32 _
      refine jv_aload_n (jv_dk t_X13_act (k := 70) rfl) rfl rfl (Or.inr ⟨_, rfl⟩) ?_
      refine jv_dup (jv_dk t_X13_act (k := 71) rfl) rfl ?_
      refine jv_gI (jv_dk t_X13_act (k := 72) rfl) fl_X13_195 (fun v35 => ?_)
      refine jv_iconst (v := 1) (jv_dk t_X13_act (k := 73) rfl) (by decide) ?_
      refine jv_iadd (jv_dk t_X13_act (k := 74) rfl) ?_
      refine jv_pV (jv_dk t_X13_act (k := 75) rfl) fl_X13_195 kX13 (Or.inl rfl) rfl rfl rfl (fun h36 => ?_)
      refine jv_iload (jv_dk t_X13_act (k := 76) rfl) rfl ?_
      exact jv_iret (ty := .int) (jv_dk t_X13_act (k := 77) rfl) rfl rfl rfl
  · show jv_O _ _ _ _ 32 _ _ _ _
    refine jv_aload_n (jv_dk t_X13_act (k := 17) rfl) rfl rfl (Or.inr ⟨_, rfl⟩) ?_
    refine jv_iconst (v := 1) (jv_dk t_X13_act (k := 18) rfl) (by decide) ?_
    refine jv_callV (en' := jeI) (pv := jpI) (As := [.int (1)]) (S := []) (jv_dk t_X13_act (k := 19) rfl) (fun _ => rfl) (Or.inl lk_X13_327) me_X13_refuse mv_X13_refuse ⟨by decide, by decide⟩ rfl rfl rfl (Nat.le_of_ble_eq_true rfl) (P_X13_refuse X a0 1 h5) (fun v37 h38 => ?_)
    show jv_O X M_X13_act _ jeI 37 [some (.ref (a0)), some (.int (a1)), some (.int (a2)), some (.int (a3)), some (.int (a4)), some (.int (a5)), some (.int (a6)), some (.int (v4)), none] [.int (v37)] h38 _
    exact jv_iret (ty := .int) (jv_dk t_X13_act (k := 20) rfl) rfl rfl rfl
def t0_X13_fork : List (Nat × Instr × Nat) := [(0, .aload_n 0, 1), (1, .iconst 0, 1), (2, .putfield 96, 3), (5, .aload_n 0, 1), (6, .iconst 0, 1), (7, .iload_n 1, 1), (8, .iconst 0, 1), (9, .iconst 0, 1), (10, .iconst 0, 1), (11, .iconst 0, 1), (12, .invokevirtual 330, 3), (15, .ireturn, 1)]
theorem t_X13_fork : jv_dec cX13_fork t0_X13_fork = true := by decide +kernel
def M_X13_fork : jm := (yX13_fork, cX13_fork, 2, (some .int), 8, 202, [])
theorem lk_X13_330 : Cond.methodLink RX13 330 M_X13_act.1 ∈ lw_tbl := (jv_at 1704 (by decide +kernel))
set_option maxRecDepth 20000 in
theorem me_X13_act : jv_me M_X13_act 6 := ⟨(jv_in7 (List.mem_of_getElem? (i := 107) rfl)), (jv_at 172 (by decide +kernel)), ⟨by decide, by decide⟩, by decide +kernel⟩
theorem mv_X13_act : jv_mv M_X13_act := ⟨(jv_at 1706 (by decide +kernel)), (jv_at 141 (by decide +kernel))⟩
def f_X13_fork (a0 : Nat) (a1 : Int32) (h : jh) : Option (Int32 × jh) :=
  pV h a0 11 1 (.int (0)) fun h1 =>
  cV h1 a0 11 (f_X13_act a0 0 a1 0 0 0 0 h1) fun v2 h3 =>
  some (v2, h3)
theorem P_X13_fork (X : jx) (a0 : Nat) (a1 : Int32) (h : jh) : jv_P X M_X13_fork jeI [.ref (a0), .int (a1)] h (f_X13_fork a0 a1 h) := by
  refine jv_P.of (by decide) rfl (by simp [Value.category]) (Nat.le_of_ble_eq_true rfl) ?_
  show jv_O X M_X13_fork (h.1, h.2.1) jeI 0 [some (.ref (a0)), some (.int (a1))] [] h (f_X13_fork a0 a1 h)
  unfold f_X13_fork
  refine jv_aload_n (jv_dk t_X13_fork (k := 0) rfl) rfl rfl (Or.inr ⟨_, rfl⟩) ?_
  refine jv_iconst (v := 0) (jv_dk t_X13_fork (k := 1) rfl) (by decide) ?_
  refine jv_pV (jv_dk t_X13_fork (k := 2) rfl) fl_X13_96 kX13 (Or.inl rfl) rfl rfl rfl (fun h1 => ?_)
  refine jv_aload_n (jv_dk t_X13_fork (k := 3) rfl) rfl rfl (Or.inr ⟨_, rfl⟩) ?_
  refine jv_iconst (v := 0) (jv_dk t_X13_fork (k := 4) rfl) (by decide) ?_
  refine jv_iload_n (jv_dk t_X13_fork (k := 5) rfl) rfl rfl ?_
  refine jv_iconst (v := 0) (jv_dk t_X13_fork (k := 6) rfl) (by decide) ?_
  refine jv_iconst (v := 0) (jv_dk t_X13_fork (k := 7) rfl) (by decide) ?_
  refine jv_iconst (v := 0) (jv_dk t_X13_fork (k := 8) rfl) (by decide) ?_
  refine jv_iconst (v := 0) (jv_dk t_X13_fork (k := 9) rfl) (by decide) ?_
  refine jv_callV (en' := jeI) (pv := jpI) (As := [.int (0), .int (a1), .int (0), .int (0), .int (0), .int (0)]) (S := []) (jv_dk t_X13_fork (k := 10) rfl) (fun _ => rfl) (Or.inl lk_X13_330) me_X13_act mv_X13_act ⟨by decide, by decide⟩ rfl rfl rfl (Nat.le_of_ble_eq_true rfl) (P_X13_act X a0 0 a1 0 0 0 0 h1) (fun v2 h3 => ?_)
  show jv_O X M_X13_fork _ jeI 15 [some (.ref (a0)), some (.int (a1))] [.int (v2)] h3 _
  exact jv_iret (ty := .int) (jv_dk t_X13_fork (k := 11) rfl) rfl rfl rfl
def t0_X13_wordOf : List (Nat × Instr × Nat) := [(0, .iload_n 0, 1), (1, .iconst 1, 1), (2, .if_icmp .ne 7, 3), (5, .iconst 1, 1), (6, .goto 12, 3), (9, .iload_n 0, 1), (10, .ifCond .ne 7, 3), (13, .iconst 2, 1), (14, .goto 4, 3), (17, .iconst 3, 1), (18, .ireturn, 1)]
theorem t_X13_wordOf : jv_dec cX13_wordOf t0_X13_wordOf = true := by decide +kernel
def M_X13_wordOf : jm := (yX13_wordOf, cX13_wordOf, 1, (some .int), 0, 0, [])
def f_X13_wordOf (a0 : Int32) (h : jh) : Option (Int32 × jh) :=
  (if ¬ a0 = 1 then
  (if ¬ a0 = 0 then
  some (3, h)
  else
  some (2, h))
  else
  some (1, h))
theorem P_X13_wordOf (X : jx) (a0 : Int32) (h : jh) : jv_P X M_X13_wordOf jeI [.int (a0)] h (f_X13_wordOf a0 h) := by
  refine jv_P.of (by decide) rfl (by simp [Value.category]) (Nat.le_of_ble_eq_true rfl) ?_
  show jv_O X M_X13_wordOf (h.1, h.2.1) jeI 0 [some (.int (a0))] [] h (f_X13_wordOf a0 h)
  unfold f_X13_wordOf
  refine jv_iload_n (jv_dk t_X13_wordOf (k := 0) rfl) rfl rfl ?_
  refine jv_iconst (v := 1) (jv_dk t_X13_wordOf (k := 1) rfl) (by decide) ?_
  refine jv_icmp_ne (tgt := 9) (jv_dk t_X13_wordOf (k := 2) rfl) rfl (fun c1 => ?_) (fun c1 => ?_)
  · refine jv_iload_n (jv_dk t_X13_wordOf (k := 5) rfl) rfl rfl ?_
    refine jv_if_ne (tgt := 17) (jv_dk t_X13_wordOf (k := 6) rfl) rfl (fun c2 => ?_) (fun c2 => ?_)
    · refine jv_iconst (v := 3) (jv_dk t_X13_wordOf (k := 9) rfl) (by decide) ?_
      exact jv_iret (ty := .int) (jv_dk t_X13_wordOf (k := 10) rfl) rfl rfl rfl
    · show jv_O _ _ _ _ 13 _ _ _ _
      refine jv_iconst (v := 2) (jv_dk t_X13_wordOf (k := 7) rfl) (by decide) ?_
      refine jv_goto (tgt := 18) (jv_dk t_X13_wordOf (k := 8) rfl) rfl ?_
      exact jv_iret (ty := .int) (jv_dk t_X13_wordOf (k := 10) rfl) rfl rfl rfl
  · show jv_O _ _ _ _ 5 _ _ _ _
    refine jv_iconst (v := 1) (jv_dk t_X13_wordOf (k := 3) rfl) (by decide) ?_
    refine jv_goto (tgt := 18) (jv_dk t_X13_wordOf (k := 4) rfl) rfl ?_
    exact jv_iret (ty := .int) (jv_dk t_X13_wordOf (k := 10) rfl) rfl rfl rfl
def t0_X13_create : List (Nat × Instr × Nat) := [(0, .aload_n 0, 1), (1, .iconst 0, 1), (2, .putfield 96, 3), (5, .iload_n 2, 1), (6, .iconst 0, 1), (7, .iconst 2, 1), (8, .invokestatic 169, 3), (11, .ifCond .eq 19, 3), (14, .aload_n 0, 1), (15, .iload_n 2, 1), (16, .invokestatic 333, 3), (19, .iload_n 1, 1), (20, .iconst 0, 1), (21, .iconst 0, 1), (22, .iconst 0, 1), (23, .iconst 0, 1), (24, .invokevirtual 330, 3), (27, .goto 8, 3), (30, .aload_n 0, 1), (31, .iconst 1, 1), (32, .invokevirtual 327, 3), (35, .ireturn, 1)]
theorem t_X13_create : jv_dec cX13_create t0_X13_create = true := by decide +kernel
def M_X13_create : jm := (yX13_create, cX13_create, 3, (some .int), 8, 202, [])
theorem lk_X13_333 : Cond.methodLink RX13 333 M_X13_wordOf.1 ∈ lw_tbl := (jv_at 1719 (by decide +kernel))
set_option maxRecDepth 20000 in
theorem me_X13_wordOf : jv_me M_X13_wordOf 1 := ⟨(jv_in7 (List.mem_of_getElem? (i := 121) rfl)), (jv_at 172 (by decide +kernel)), ⟨by decide, by decide⟩, by decide +kernel⟩
theorem ms_X13_wordOf : jv_ms M_X13_wordOf := (jv_at 1720 (by decide +kernel))
def f_X13_create (a0 : Nat) (a1 : Int32) (a2 : Int32) (h : jh) : Option (Int32 × jh) :=
  pV h a0 11 1 (.int (0)) fun h1 =>
  bd (f_X13_isIn a2 0 2 h1) fun v2 h3 =>
  (if v2 = 0 then
  cV h3 a0 11 (f_X13_refuse a0 1 h3) fun v5 h6 =>
  some (v5, h6)
  else
  bd (f_X13_wordOf a2 h3) fun v7 h8 =>
  cV h8 a0 11 (f_X13_act a0 v7 a1 0 0 0 0 h8) fun v9 h10 =>
  some (v9, h10))
theorem P_X13_create (X : jx) (a0 : Nat) (a1 : Int32) (a2 : Int32) (h : jh) : jv_P X M_X13_create jeI [.ref (a0), .int (a1), .int (a2)] h (f_X13_create a0 a1 a2 h) := by
  refine jv_P.of (by decide) rfl (by simp [Value.category]) (Nat.le_of_ble_eq_true rfl) ?_
  show jv_O X M_X13_create (h.1, h.2.1) jeI 0 [some (.ref (a0)), some (.int (a1)), some (.int (a2))] [] h (f_X13_create a0 a1 a2 h)
  unfold f_X13_create
  refine jv_aload_n (jv_dk t_X13_create (k := 0) rfl) rfl rfl (Or.inr ⟨_, rfl⟩) ?_
  refine jv_iconst (v := 0) (jv_dk t_X13_create (k := 1) rfl) (by decide) ?_
  refine jv_pV (jv_dk t_X13_create (k := 2) rfl) fl_X13_96 kX13 (Or.inl rfl) rfl rfl rfl (fun h1 => ?_)
  refine jv_iload_n (jv_dk t_X13_create (k := 3) rfl) rfl rfl ?_
  refine jv_iconst (v := 0) (jv_dk t_X13_create (k := 4) rfl) (by decide) ?_
  refine jv_iconst (v := 2) (jv_dk t_X13_create (k := 5) rfl) (by decide) ?_
  refine jv_callS (en' := jeI) (pv := jpI) (As := [.int (a2), .int (0), .int (2)]) (S := []) (jv_dk t_X13_create (k := 6) rfl) (fun _ => rfl) (Or.inl lk_X13_169) me_X13_isIn ms_X13_isIn ⟨by decide, by decide⟩ rfl rfl (Nat.le_of_ble_eq_true rfl) (P_X13_isIn X a2 0 2 h1) (fun v2 h3 => ?_)
  show jv_O X M_X13_create _ jeI 11 [some (.ref (a0)), some (.int (a1)), some (.int (a2))] [.int (v2)] h3 _
  refine jv_if_eq (tgt := 30) (jv_dk t_X13_create (k := 7) rfl) rfl (fun c4 => ?_) (fun c4 => ?_)
  · refine jv_aload_n (jv_dk t_X13_create (k := 18) rfl) rfl rfl (Or.inr ⟨_, rfl⟩) ?_
    refine jv_iconst (v := 1) (jv_dk t_X13_create (k := 19) rfl) (by decide) ?_
    refine jv_callV (en' := jeI) (pv := jpI) (As := [.int (1)]) (S := []) (jv_dk t_X13_create (k := 20) rfl) (fun _ => rfl) (Or.inl lk_X13_327) me_X13_refuse mv_X13_refuse ⟨by decide, by decide⟩ rfl rfl rfl (Nat.le_of_ble_eq_true rfl) (P_X13_refuse X a0 1 h3) (fun v5 h6 => ?_)
    show jv_O X M_X13_create _ jeI 35 [some (.ref (a0)), some (.int (a1)), some (.int (a2))] [.int (v5)] h6 _
    exact jv_iret (ty := .int) (jv_dk t_X13_create (k := 21) rfl) rfl rfl rfl
  · show jv_O _ _ _ _ 14 _ _ _ _
    refine jv_aload_n (jv_dk t_X13_create (k := 8) rfl) rfl rfl (Or.inr ⟨_, rfl⟩) ?_
    refine jv_iload_n (jv_dk t_X13_create (k := 9) rfl) rfl rfl ?_
    refine jv_callS (en' := jeI) (pv := jpI) (As := [.int (a2)]) (S := [.ref (a0)]) (jv_dk t_X13_create (k := 10) rfl) (fun _ => rfl) (Or.inl lk_X13_333) me_X13_wordOf ms_X13_wordOf ⟨by decide, by decide⟩ rfl rfl (Nat.le_of_ble_eq_true rfl) (P_X13_wordOf X a2 h3) (fun v7 h8 => ?_)
    show jv_O X M_X13_create _ jeI 19 [some (.ref (a0)), some (.int (a1)), some (.int (a2))] [.int (v7), .ref (a0)] h8 _
    refine jv_iload_n (jv_dk t_X13_create (k := 11) rfl) rfl rfl ?_
    refine jv_iconst (v := 0) (jv_dk t_X13_create (k := 12) rfl) (by decide) ?_
    refine jv_iconst (v := 0) (jv_dk t_X13_create (k := 13) rfl) (by decide) ?_
    refine jv_iconst (v := 0) (jv_dk t_X13_create (k := 14) rfl) (by decide) ?_
    refine jv_iconst (v := 0) (jv_dk t_X13_create (k := 15) rfl) (by decide) ?_
    refine jv_callV (en' := jeI) (pv := jpI) (As := [.int (v7), .int (a1), .int (0), .int (0), .int (0), .int (0)]) (S := []) (jv_dk t_X13_create (k := 16) rfl) (fun _ => rfl) (Or.inl lk_X13_330) me_X13_act mv_X13_act ⟨by decide, by decide⟩ rfl rfl rfl (Nat.le_of_ble_eq_true rfl) (P_X13_act X a0 v7 a1 0 0 0 0 h8) (fun v9 h10 => ?_)
    show jv_O X M_X13_create _ jeI 27 [some (.ref (a0)), some (.int (a1)), some (.int (a2))] [.int (v9)] h10 _
    refine jv_goto (tgt := 35) (jv_dk t_X13_create (k := 17) rfl) rfl ?_
    exact jv_iret (ty := .int) (jv_dk t_X13_create (k := 21) rfl) rfl rfl rfl
