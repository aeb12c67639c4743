def t0_X12_restore : List (Nat × Instr × Nat) := [(0, .aload_n 0, 1), (1, .getfield 54, 3), (4, .ifCond .eq 10, 3), (7, .aload_n 0, 1), (8, .getfield 51, 3), (11, .ifnonnull 5, 3), (14, .iconst 0, 1), (15, .ireturn, 1), (16, .aload_n 0, 1), (17, .getfield 10, 3), (20, .aload_n 0, 1), (21, .getfield 51, 3), (24, .invokevirtual 374, 3), (27, .iconst 1, 1), (28, .ireturn, 1)]
theorem t_X12_restore : jv_dec cX12_restore t0_X12_restore = true := by decide +kernel
def M_X12_restore : jm := (yX12_restore, cX12_restore, 1, (some .boolean), 6, 148, [])
def f_X12_restore (a0 : Nat) (h : jh) : Option (Int32 × jh) :=
  gI h a0 10 9 fun v1 =>
  (if v1 = 0 then
  some (0, h)
  else
  gQ h a0 10 8 fun v3 =>
  nq v3 (some (0, h)) fun r4 =>
  gR h a0 10 0 fun v5 =>
  gQ h a0 10 8 fun v6 =>
  nn v6 fun r7 =>
  cV h v5 6 (f_X8_copy v5 r7 h) fun _ h8 =>
  some (1, h8))
theorem P_X12_restore (X : jx) (a0 : Nat) (h : jh) : jv_P X M_X12_restore jeI [.ref (a0)] h (f_X12_restore a0 h) := by
  refine jv_P.of (by decide) rfl (by simp [Value.category]) (Nat.le_of_ble_eq_true rfl) ?_
  show jv_O X M_X12_restore (h.1, h.2.1) jeI 0 [some (.ref (a0))] [] h (f_X12_restore a0 h)
  unfold f_X12_restore
  refine jv_aload_n (jv_dk t_X12_restore (k := 0) rfl) rfl rfl (Or.inr ⟨_, rfl⟩) ?_
  refine jv_gI (jv_dk t_X12_restore (k := 1) rfl) fl_X12_54 (fun v1 => ?_)
  refine jv_if_eq (tgt := 14) (jv_dk t_X12_restore (k := 2) rfl) rfl (fun c2 => ?_) (fun c2 => ?_)
  · refine jv_iconst (v := 0) (jv_dk t_X12_restore (k := 6) rfl) (by decide) ?_
    exact jv_iret (ty := .boolean) (jv_dk t_X12_restore (k := 7) rfl) rfl rfl rfl
  · show jv_O _ _ _ _ 7 _ _ _ _
    refine jv_aload_n (jv_dk t_X12_restore (k := 3) rfl) rfl rfl (Or.inr ⟨_, rfl⟩) ?_
    refine jv_gQ (jv_dk t_X12_restore (k := 4) rfl) fl_X12_51 (fun v3 => ?_)
    refine jv_nq (fun e_r4 => ?_) (fun r4 e_r4 => ?_)
    · subst e_r4
      show jv_O X M_X12_restore _ jeI 11 [some (.ref (a0))] [.null] h _
      refine jv_ifnonnull_n (jv_dk t_X12_restore (k := 5) rfl) ?_
      refine jv_iconst (v := 0) (jv_dk t_X12_restore (k := 6) rfl) (by decide) ?_
      exact jv_iret (ty := .boolean) (jv_dk t_X12_restore (k := 7) rfl) rfl rfl rfl
    · subst e_r4
      show jv_O X M_X12_restore _ jeI 11 [some (.ref (a0))] [.ref (r4)] h _
      refine jv_ifnonnull_s (tgt := 16) (jv_dk t_X12_restore (k := 5) rfl) rfl ?_
      refine jv_aload_n (jv_dk t_X12_restore (k := 8) rfl) rfl rfl (Or.inr ⟨_, rfl⟩) ?_
      refine jv_gR (jv_dk t_X12_restore (k := 9) rfl) fl_X12_10 (fun v5 => ?_)
      refine jv_aload_n (jv_dk t_X12_restore (k := 10) rfl) rfl rfl (Or.inr ⟨_, rfl⟩) ?_
      refine jv_gQ (jv_dk t_X12_restore (k := 11) rfl) fl_X12_51 (fun v6 => ?_)
      refine jv_nn (fun r7 e_r7 => ?_)
      subst e_r7
      show jv_O X M_X12_restore _ jeI 24 [some (.ref (a0))] [.ref (r7), .ref (v5)] h _
      refine jv_callV (en' := jeV) (pv := jpV) (As := [.ref (r7)]) (S := []) (jv_dk t_X12_restore (k := 12) rfl) (fun _ => rfl) lk_X12_374 me_X8_copy mv_X8_copy ⟨by decide, by decide⟩ rfl rfl rfl (Nat.le_of_ble_eq_true rfl) (P_X8_copy X v5 r7 h) (fun _ h8 => ?_)
      show jv_O X M_X12_restore _ jeI 27 [some (.ref (a0))] [] h8 _
      refine jv_iconst (v := 1) (jv_dk t_X12_restore (k := 13) rfl) (by decide) ?_
      exact jv_iret (ty := .boolean) (jv_dk t_X12_restore (k := 14) rfl) rfl rfl rfl
def t0_X13_spaceAt : List (Nat × Instr × Nat) := [(0, .sipush 256, 3), (3, .bipush 14, 2), (5, .bipush 8, 2), (7, .iload_n 0, 1), (8, .imul, 1), (9, .iload_n 1, 1), (10, .iadd, 1), (11, .imul, 1), (12, .iadd, 1), (13, .ireturn, 1)]
theorem t_X13_spaceAt : jv_dec cX13_spaceAt t0_X13_spaceAt = true := by decide +kernel
def M_X13_spaceAt : jm := (yX13_spaceAt, cX13_spaceAt, 2, (some .int), 0, 0, [])
def f_X13_spaceAt (a0 : Int32) (a1 : Int32) (h : jh) : Option (Int32 × jh) :=
  some (256 + (14 * ((8 * a0) + a1)), h)
theorem P_X13_spaceAt (X : jx) (a0 : Int32) (a1 : Int32) (h : jh) : jv_P X M_X13_spaceAt jeI [.int (a0), .int (a1)] h (f_X13_spaceAt a0 a1 h) := by
  refine jv_P.of (by decide) rfl (by simp [Value.category]) (Nat.le_of_ble_eq_true rfl) ?_
  show jv_O X M_X13_spaceAt (h.1, h.2.1) jeI 0 [some (.int (a0)), some (.int (a1))] [] h (f_X13_spaceAt a0 a1 h)
  unfold f_X13_spaceAt
  refine jv_sipush (v := 256) (jv_dk t_X13_spaceAt (k := 0) rfl) (by decide) ?_
  refine jv_bipush (v := 14) (jv_dk t_X13_spaceAt (k := 1) rfl) (by decide) ?_
  refine jv_bipush (v := 8) (jv_dk t_X13_spaceAt (k := 2) rfl) (by decide) ?_
  refine jv_iload_n (jv_dk t_X13_spaceAt (k := 3) rfl) rfl rfl ?_
  refine jv_imul (jv_dk t_X13_spaceAt (k := 4) rfl) ?_
  refine jv_iload_n (jv_dk t_X13_spaceAt (k := 5) rfl) rfl rfl ?_
  refine jv_iadd (jv_dk t_X13_spaceAt (k := 6) rfl) ?_
  refine jv_imul (jv_dk t_X13_spaceAt (k := 7) rfl) ?_
  refine jv_iadd (jv_dk t_X13_spaceAt (k := 8) rfl) ?_
  exact jv_iret (ty := .int) (jv_dk t_X13_spaceAt (k := 9) rfl) rfl rfl rfl
def t0_X13_layFirst : List (Nat × Instr × Nat) := [(0, .iconst 0, 1), (1, .istore_n 1, 1), (2, .iload_n 1, 1), (3, .sipush 595, 3), (6, .if_icmp .ge 16, 3), (9, .aload_n 0, 1), (10, .getfield 37, 3), (13, .iload_n 1, 1), (14, .iconst 0, 1), (15, .iastore, 1), (16, .iinc 1 1, 3), (19, .goto (-17), 3), (22, .aload_n 0, 1), (23, .getfield 37, 3), (26, .iconst 0, 1), (27, .iconst 1, 1), (28, .iastore, 1), (29, .aload_n 0, 1), (30, .getfield 37, 3), (33, .bipush 7, 2), (35, .iconst 1, 1), (36, .iastore, 1), (37, .aload_n 0, 1), (38, .getfield 37, 3), (41, .sipush 128, 3), (44, .iconst 1, 1), (45, .iastore, 1), (46, .iconst 0, 1), (47, .istore_n 1, 1), (48, .iload_n 1, 1), (49, .iconst 3, 1), (50, .if_icmp .ge 33, 3), (53, .aload_n 0, 1), (54, .getfield 37, 3), (57, .sipush 592, 3), (60, .iload_n 1, 1), (61, .iadd, 1), (62, .iconst 1, 1), (63, .iastore, 1), (64, .aload_n 0, 1), (65, .getfield 37, 3), (68, .iload_n 1, 1), (69, .iconst 0, 1), (70, .invokestatic 99, 3), (73, .iconst 0, 1), (74, .iadd, 1), (75, .iconst (-1), 1), (76, .iastore, 1), (77, .iinc 1 1, 3), (80, .goto (-32), 3), (83, .aload_n 0, 1), (84, .getfield 37, 3), (87, .iconst 0, 1), (88, .iconst 0, 1), (89, .invokestatic 99, 3), (92, .iconst 3, 1), (93, .iadd, 1), (94, .iconst 1, 1), (95, .iastore, 1), (96, .aload_n 0, 1), (97, .getfield 37, 3), (100, .iconst 0, 1), (101, .iconst 0, 1), (102, .invokestatic 99, 3), (105, .iconst 5, 1), (106, .iadd, 1), (107, .iconst 1, 1), (108, .iastore, 1), (109, .return_, 1)]
theorem t_X13_layFirst : jv_dec cX13_layFirst t0_X13_layFirst = true := by decide +kernel
def M_X13_layFirst : jm := (yX13_layFirst, cX13_layFirst, 2, none, 1, 21, [])
theorem fl_X13_37 : jv_F RX13 37 11 2 RX13 TX13 36 := ⟨rfl, by decide, inX13, Or.inl (jv_at 1374 (by decide +kernel))⟩
theorem lk_X13_99 : Cond.methodLink RX13 99 M_X13_spaceAt.1 ∈ lw_tbl := (jv_at 1369 (by decide +kernel))
set_option maxRecDepth 20000 in
theorem me_X13_spaceAt : jv_me M_X13_spaceAt 2 := ⟨(jv_in6 (List.mem_of_getElem? (i := 11) rfl)), (jv_at 172 (by decide +kernel)), ⟨by decide, by decide⟩, by decide +kernel⟩
theorem ms_X13_spaceAt : jv_ms M_X13_spaceAt := (jv_at 1370 (by decide +kernel))
def f_X13_layFirst_h2 (K2 : Nat → jh → Option (Unit × jh)) (R2 : Nat → Int32 → jh → Option (Unit × jh)) (x0 : Nat) (x1 : Int32) (h : jh) : Option (Unit × jh) :=
  (if 595 ≤ x1 then
  K2 x0 h
  else
  gR h x0 11 2 fun v2 =>
  sI h v2 x1 0 fun h3 =>
  R2 x0 (x1 + 1) h3)
theorem o_f_X13_layFirst_h2 {X : jx} {b0 : Nat × Nat} {K2 : Nat → jh → Option (Unit × jh)} (hK2 : ∀ (x0 : Nat) (h : jh), jv_O X M_X13_layFirst b0 jeV 22 [some (.ref (x0)), none] [] h (K2 x0 h)) : ∀ (x0 : Nat) (x1 : Int32) (h : jh), jv_O X M_X13_layFirst b0 jeV 2 [some (.ref (x0)), some (.int (x1))] [] h (jlp2 (f_X13_layFirst_h2 K2) jfu x0 x1 h) := by
  refine jlp2_ok (P := fun x0 x1 h o => jv_O X M_X13_layFirst b0 jeV 2 [some (.ref (x0)), some (.int (x1))] [] h o) (fun R2 hR2 => ?_) (fun _ _ _  => jv_none rfl) jfu
  intro x0 x1 h
  unfold f_X13_layFirst_h2
  refine jv_iload_n (jv_dk t_X13_layFirst (k := 2) rfl) rfl rfl ?_
  refine jv_sipush (v := 595) (jv_dk t_X13_layFirst (k := 3) rfl) (by decide) ?_
  refine jv_icmp_ge (tgt := 22) (jv_dk t_X13_layFirst (k := 4) rfl) rfl (fun c1 => ?_) (fun c1 => ?_)
  · refine jv_le_row (jv_le_s (jv_le_n (jv_le_nil))) ?_
    exact hK2 _ _ 
  · show jv_O _ _ _ _ 9 _ _ _ _
    refine jv_aload_n (jv_dk t_X13_layFirst (k := 5) rfl) rfl rfl (Or.inr ⟨_, rfl⟩) ?_
    refine jv_gR (jv_dk t_X13_layFirst (k := 6) rfl) fl_X13_37 (fun v2 => ?_)
    refine jv_iload_n (jv_dk t_X13_layFirst (k := 7) rfl) rfl rfl ?_
    refine jv_iconst (v := 0) (jv_dk t_X13_layFirst (k := 8) rfl) (by decide) ?_
    refine jv_iastore (jv_dk t_X13_layFirst (k := 9) rfl) (fun h3 => ?_)
    refine jv_iinc (v := 1) (L' := [some (.ref (x0)), some (.int (x1 + 1))]) (jv_dk t_X13_layFirst (k := 10) rfl) rfl (by decide) rfl ?_
    refine jv_goto (tgt := 2) (jv_dk t_X13_layFirst (k := 11) rfl) rfl ?_
    exact hR2 _ _ _ 
def f_X13_layFirst_h48 (K48 : Nat → jh → Option (Unit × jh)) (R48 : Nat → Int32 → jh → Option (Unit × jh)) (x0 : Nat) (x1 : Int32) (h : jh) : Option (Unit × jh) :=
  (if 3 ≤ x1 then
  K48 x0 h
  else
  gR h x0 11 2 fun v13 =>
  sI h v13 (592 + x1) 1 fun h14 =>
  gR h14 x0 11 2 fun v15 =>
  bd (f_X13_spaceAt x1 0 h14) fun v16 h17 =>
  sI h17 v15 (v16 + 0) (-1) fun h18 =>
  R48 x0 (x1 + 1) h18)
theorem o_f_X13_layFirst_h48 {X : jx} {b0 : Nat × Nat} {K48 : Nat → jh → Option (Unit × jh)} (hK48 : ∀ (x0 : Nat) (h : jh), jv_O X M_X13_layFirst b0 jeV 83 [some (.ref (x0)), none] [] h (K48 x0 h)) : ∀ (x0 : Nat) (x1 : Int32) (h : jh), jv_O X M_X13_layFirst b0 jeV 48 [some (.ref (x0)), some (.int (x1))] [] h (jlp2 (f_X13_layFirst_h48 K48) jfu x0 x1 h) := by
  refine jlp2_ok (P := fun x0 x1 h o => jv_O X M_X13_layFirst b0 jeV 48 [some (.ref (x0)), some (.int (x1))] [] h o) (fun R48 hR48 => ?_) (fun _ _ _  => jv_none rfl) jfu
  intro x0 x1 h
  unfold f_X13_layFirst_h48
  refine jv_iload_n (jv_dk t_X13_layFirst (k := 29) rfl) rfl rfl ?_
  refine jv_iconst (v := 3) (jv_dk t_X13_layFirst (k := 30) rfl) (by decide) ?_
  refine jv_icmp_ge (tgt := 83) (jv_dk t_X13_layFirst (k := 31) rfl) rfl (fun c12 => ?_) (fun c12 => ?_)
  · refine jv_le_row (jv_le_s (jv_le_n (jv_le_nil))) ?_
    exact hK48 _ _ 
  · show jv_O _ _ _ _ 53 _ _ _ _
    refine jv_aload_n (jv_dk t_X13_layFirst (k := 32) rfl) rfl rfl (Or.inr ⟨_, rfl⟩) ?_
    refine jv_gR (jv_dk t_X13_layFirst (k := 33) rfl) fl_X13_37 (fun v13 => ?_)
    refine jv_sipush (v := 592) (jv_dk t_X13_layFirst (k := 34) rfl) (by decide) ?_
    refine jv_iload_n (jv_dk t_X13_layFirst (k := 35) rfl) rfl rfl ?_
    refine jv_iadd (jv_dk t_X13_layFirst (k := 36) rfl) ?_
    refine jv_iconst (v := 1) (jv_dk t_X13_layFirst (k := 37) rfl) (by decide) ?_
    refine jv_iastore (jv_dk t_X13_layFirst (k := 38) rfl) (fun h14 => ?_)
    refine jv_aload_n (jv_dk t_X13_layFirst (k := 39) rfl) rfl rfl (Or.inr ⟨_, rfl⟩) ?_
    refine jv_gR (jv_dk t_X13_layFirst (k := 40) rfl) fl_X13_37 (fun v15 => ?_)
    refine jv_iload_n (jv_dk t_X13_layFirst (k := 41) rfl) rfl rfl ?_
    refine jv_iconst (v := 0) (jv_dk t_X13_layFirst (k := 42) rfl) (by decide) ?_
    refine jv_callS (en' := jeI) (pv := jpI) (As := [.int (x1), .int (0)]) (S := [.ref (v15)]) (jv_dk t_X13_layFirst (k := 43) rfl) (fun _ => rfl) (Or.inl lk_X13_99) me_X13_spaceAt ms_X13_spaceAt ⟨by decide, by decide⟩ rfl rfl (Nat.le_of_ble_eq_true rfl) (P_X13_spaceAt X x1 0 h14) (fun v16 h17 => ?_)
    show jv_O X M_X13_layFirst _ jeV 73 [some (.ref (x0)), some (.int (x1))] [.int (v16), .ref (v15)] h17 _
    refine jv_iconst (v := 0) (jv_dk t_X13_layFirst (k := 44) rfl) (by decide) ?_
    refine jv_iadd (jv_dk t_X13_layFirst (k := 45) rfl) ?_
    refine jv_iconst (v := (-1)) (jv_dk t_X13_layFirst (k := 46) rfl) (by decide) ?_
    refine jv_iastore (jv_dk t_X13_layFirst (k := 47) rfl) (fun h18 => ?_)
    refine jv_iinc (v := 1) (L' := [some (.ref (x0)), some (.int (x1 + 1))]) (jv_dk t_X13_layFirst (k := 48) rfl) rfl (by decide) rfl ?_
    refine jv_goto (tgt := 48) (jv_dk t_X13_layFirst (k := 49) rfl) rfl ?_
    exact hR48 _ _ _ 
def f_X13_layFirst (a0 : Nat) (h : jh) : Option (Unit × jh) :=
  jlp2 (f_X13_layFirst_h2 (fun y5 h4 =>
  gR h4 y5 11 2 fun v6 =>
  sI h4 v6 0 1 fun h7 =>
  gR h7 y5 11 2 fun v8 =>
  sI h7 v8 7 1 fun h9 =>
  gR h9 y5 11 2 fun v10 =>
  sI h9 v10 128 1 fun h11 =>
  jlp2 (f_X13_layFirst_h48 (fun y20 h19 =>
  gR h19 y20 11 2 fun v21 =>
  bd (f_X13_spaceAt 0 0 h19) fun v22 h23 =>
  sI h23 v21 (v22 + 3) 1 fun h24 =>
  gR h24 y20 11 2 fun v25 =>
  bd (f_X13_spaceAt 0 0 h24) fun v26 h27 =>
  sI h27 v25 (v26 + 5) 1 fun h28 =>
  some ((), h28))) jfu y5 0 h11)) jfu a0 0 h
theorem P_X13_layFirst (X : jx) (a0 : Nat) (h : jh) : jv_P X M_X13_layFirst jeV [.ref (a0)] h (f_X13_layFirst a0 h) := by
  refine jv_P.of (by decide) rfl (by simp [Value.category]) (Nat.le_of_ble_eq_true rfl) ?_
  show jv_O X M_X13_layFirst (h.1, h.2.1) jeV 0 [some (.ref (a0)), none] [] h (f_X13_layFirst a0 h)
  unfold f_X13_layFirst
  refine jv_iconst (v := 0) (jv_dk t_X13_layFirst (k := 0) rfl) (by decide) ?_
  refine jv_istore_n (L' := [some (.ref (a0)), some (.int (0))]) (jv_dk t_X13_layFirst (k := 1) rfl) rfl (Nat.le_of_ble_eq_true rfl) rfl ?_
  refine o_f_X13_layFirst_h2 (fun y5 h4 => ?_) _ _ _ 
  show jv_O X M_X13_layFirst _ jeV 22 [some (.ref (y5)), none] [] h4 _
  refine jv_aload_n (jv_dk t_X13_layFirst (k := 12) rfl) rfl rfl (Or.inr ⟨_, rfl⟩) ?_
  refine jv_gR (jv_dk t_X13_layFirst (k := 13) rfl) fl_X13_37 (fun v6 => ?_)
  refine jv_iconst (v := 0) (jv_dk t_X13_layFirst (k := 14) rfl) (by decide) ?_
  refine jv_iconst (v := 1) (jv_dk t_X13_layFirst (k := 15) rfl) (by decide) ?_
  refine jv_iastore (jv_dk t_X13_layFirst (k := 16) rfl) (fun h7 => ?_)
  refine jv_aload_n (jv_dk t_X13_layFirst (k := 17) rfl) rfl rfl (Or.inr ⟨_, rfl⟩) ?_
  refine jv_gR (jv_dk t_X13_layFirst (k := 18) rfl) fl_X13_37 (fun v8 => ?_)
  refine jv_bipush (v := 7) (jv_dk t_X13_layFirst (k := 19) rfl) (by decide) ?_
  refine jv_iconst (v := 1) (jv_dk t_X13_layFirst (k := 20) rfl) (by decide) ?_
  refine jv_iastore (jv_dk t_X13_layFirst (k := 21) rfl) (fun h9 => ?_)
  refine jv_aload_n (jv_dk t_X13_layFirst (k := 22) rfl) rfl rfl (Or.inr ⟨_, rfl⟩) ?_
  refine jv_gR (jv_dk t_X13_layFirst (k := 23) rfl) fl_X13_37 (fun v10 => ?_)
  refine jv_sipush (v := 128) (jv_dk t_X13_layFirst (k := 24) rfl) (by decide) ?_
  refine jv_iconst (v := 1) (jv_dk t_X13_layFirst (k := 25) rfl) (by decide) ?_
  refine jv_iastore (jv_dk t_X13_layFirst (k := 26) rfl) (fun h11 => ?_)
  refine jv_iconst (v := 0) (jv_dk t_X13_layFirst (k := 27) rfl) (by decide) ?_
  refine jv_istore_n (L' := [some (.ref (y5)), some (.int (0))]) (jv_dk t_X13_layFirst (k := 28) rfl) rfl (Nat.le_of_ble_eq_true rfl) rfl ?_
  refine o_f_X13_layFirst_h48 (fun y20 h19 => ?_) _ _ _ 
  show jv_O X M_X13_layFirst _ jeV 83 [some (.ref (y20)), none] [] h19 _
  refine jv_aload_n (jv_dk t_X13_layFirst (k := 50) rfl) rfl rfl (Or.inr ⟨_, rfl⟩) ?_
  refine jv_gR (jv_dk t_X13_layFirst (k := 51) rfl) fl_X13_37 (fun v21 => ?_)
  refine jv_iconst (v := 0) (jv_dk t_X13_layFirst (k := 52) rfl) (by decide) ?_
  refine jv_iconst (v := 0) (jv_dk t_X13_layFirst (k := 53) rfl) (by decide) ?_
  refine jv_callS (en' := jeI) (pv := jpI) (As := [.int (0), .int (0)]) (S := [.ref (v21)]) (jv_dk t_X13_layFirst (k := 54) rfl) (fun _ => rfl) (Or.inl lk_X13_99) me_X13_spaceAt ms_X13_spaceAt ⟨by decide, by decide⟩ rfl rfl (Nat.le_of_ble_eq_true rfl) (P_X13_spaceAt X 0 0 h19) (fun v22 h23 => ?_)
  show jv_O X M_X13_layFirst _ jeV 92 [some (.ref (y20)), none] [.int (v22), .ref (v21)] h23 _
  refine jv_iconst (v := 3) (jv_dk t_X13_layFirst (k := 55) rfl) (by decide) ?_
  refine jv_iadd (jv_dk t_X13_layFirst (k := 56) rfl) ?_
  refine jv_iconst (v := 1) (jv_dk t_X13_layFirst (k := 57) rfl) (by decide) ?_
  refine jv_iastore (jv_dk t_X13_layFirst (k := 58) rfl) (fun h24 => ?_)
  refine jv_aload_n (jv_dk t_X13_layFirst (k := 59) rfl) rfl rfl (Or.inr ⟨_, rfl⟩) ?_
  refine jv_gR (jv_dk t_X13_layFirst (k := 60) rfl) fl_X13_37 (fun v25 => ?_)
  refine jv_iconst (v := 0) (jv_dk t_X13_layFirst (k := 61) rfl) (by decide) ?_
  refine jv_iconst (v := 0) (jv_dk t_X13_layFirst (k := 62) rfl) (by decide) ?_
  refine jv_callS (en' := jeI) (pv := jpI) (As := [.int (0), .int (0)]) (S := [.ref (v25)]) (jv_dk t_X13_layFirst (k := 63) rfl) (fun _ => rfl) (Or.inl lk_X13_99) me_X13_spaceAt ms_X13_spaceAt ⟨by decide, by decide⟩ rfl rfl (Nat.le_of_ble_eq_true rfl) (P_X13_spaceAt X 0 0 h24) (fun v26 h27 => ?_)
  show jv_O X M_X13_layFirst _ jeV 105 [some (.ref (y20)), none] [.int (v26), .ref (v25)] h27 _
  refine jv_iconst (v := 5) (jv_dk t_X13_layFirst (k := 64) rfl) (by decide) ?_
  refine jv_iadd (jv_dk t_X13_layFirst (k := 65) rfl) ?_
  refine jv_iconst (v := 1) (jv_dk t_X13_layFirst (k := 66) rfl) (by decide) ?_
  refine jv_iastore (jv_dk t_X13_layFirst (k := 67) rfl) (fun h28 => ?_)
  exact jv_vret (jv_dk t_X13_layFirst (k := 68) rfl) rfl rfl
def t0_X13_init : List (Nat × Instr × Nat) := [(0, .aload_n 0, 1), (1, .invokespecial 1, 3), (4, .aload_n 0, 1), (5, .bipush 11, 2), (7, .anewarray 7, 3), (10, .dup, 1), (11, .iconst 0, 1), (12, .ldc 9, 2), (14, .aastore, 1), (15, .dup, 1), (16, .iconst 1, 1), (17, .ldc 11, 2), (19, .aastore, 1), (20, .dup, 1), (21, .iconst 2, 1), (22, .ldc 13, 2), (24, .aastore, 1), (25, .dup, 1), (26, .iconst 3, 1), (27, .ldc 15, 2), (29, .aastore, 1), (30, .dup, 1), (31, .iconst 4, 1), (32, .ldc 17, 2), (34, .aastore, 1), (35, .dup, 1), (36, .iconst 5, 1), (37, .ldc 19, 2), (39, .aastore, 1), (40, .dup, 1), (41, .bipush 6, 2), (43, .ldc 21, 2), (45, .aastore, 1), (46, .dup, 1), (47, .bipush 7, 2), (49, .ldc 23, 2), (51, .aastore, 1), (52, .dup, 1), (53, .bipush 8, 2), (55, .ldc 25, 2), (57, .aastore, 1), (58, .dup, 1), (59, .bipush 9, 2), (61, .ldc 27, 2), (63, .aastore, 1), (64, .dup, 1), (65, .bipush 10, 2), (67, .ldc 29, 2), (69, .aastore, 1), (70, .putfield 31, 3), (73, .aload_n 0, 1), (74, .sipush 595, 3), (77, .newarray .int, 2), (79, .putfield 37, 3), (82, .aload_n 0, 1), (83, .iconst 3, 1), (84, .newarray .int, 2), (86, .putfield 41, 3), (89, .aload_n 0, 1), (90, .sipush 900, 3), (93, .newarray .int, 2), (95, .putfield 44, 3), (98, .aload_n 0, 1), (99, .iconst (-1), 1), (100, .putfield 47, 3), (103, .aload_n 0, 1), (104, .sipush 360, 3), (107, .newarray .int, 2), (109, .putfield 51, 3), (112, .aload_n 0, 1), (113, .iconst 5, 1), (114, .newarray .int, 2), (116, .putfield 54, 3), (119, .aload_n 0, 1), (120, .sipush 23800, 3), (123, .newarray .int, 2), (125, .putfield 57, 3), (128, .aload_n 0, 1), (129, .sipush 595, 3), (132, .newarray .int, 2), (134, .putfield 60, 3), (137, .aload_n 0, 1), (138, .sipush 128, 3), (141, .newarray .int, 2), (143, .putfield 63, 3), (146, .aload_n 0, 1), (147, .bipush 8, 2), (149, .newarray .int, 2), (151, .putfield 66, 3), (154, .aload_n 0, 1), (155, .bipush 8, 2), (157, .newarray .int, 2), (159, .putfield 69, 3), (162, .aload_n 0, 1), (163, .bipush 8, 2), (165, .newarray .int, 2), (167, .putfield 72, 3), (170, .aload_n 0, 1), (171, .sipush 595, 3), (174, .newarray .int, 2), (176, .putfield 75, 3), (179, .aload_n 0, 1), (180, .sipush 23800, 3), (183, .newarray .int, 2), (185, .putfield 78, 3), (188, .aload_n 0, 1), (189, .bipush 8, 2), (191, .newarray .int, 2), (193, .putfield 81, 3), (196, .aload_n 0, 1), (197, .bipush 8, 2), (199, .newarray .int, 2), (201, .putfield 84, 3), (204, .aload_n 0, 1), (205, .bipush 8, 2), (207, .newarray .int, 2), (209, .putfield 87, 3), (212, .aload_n 0, 1), (213, .iconst 3, 1), (214, .newarray .int, 2), (216, .putfield 90, 3), (219, .aload_n 0, 1), (220, .invokevirtual 93, 3), (223, .return_, 1)]
theorem t_X13_init : jv_dec cX13_init t0_X13_init = true := by decide +kernel
def M_X13_init : jm := (yX13_init, cX13_init, 1, none, 2, 42, [])
theorem oi_X13_1 : Cond.methodLink RX13 1 Lib.objectInit ∈ lw_tbl := (jv_at 1351 (by decide +kernel))
theorem ck_X13_7 : Cond.classLink RX13 7 "java/lang/String" ∈ lw_tbl := (jv_at 1352 (by decide +kernel))
theorem fl_X13_31 : jv_F RX13 31 11 0 RX13 TX13 36 := ⟨rfl, by decide, inX13, Or.inl (jv_at 1372 (by decide +kernel))⟩
theorem ff_X13_31 : Cond.fieldLink RX13 31 (TX13 0).1 (TX13 0).2.1 (TX13 0).2.2.1 ∈ lw_tbl := (jv_at 1372 (by decide +kernel))
theorem ff_X13_37 : Cond.fieldLink RX13 37 (TX13 2).1 (TX13 2).2.1 (TX13 2).2.2.1 ∈ lw_tbl := (jv_at 1374 (by decide +kernel))
theorem fl_X13_41 : jv_F RX13 41 11 3 RX13 TX13 36 := ⟨rfl, by decide, inX13, Or.inl (jv_at 1375 (by decide +kernel))⟩
theorem ff_X13_41 : Cond.fieldLink RX13 41 (TX13 3).1 (TX13 3).2.1 (TX13 3).2.2.1 ∈ lw_tbl := (jv_at 1375 (by decide +kernel))
theorem fl_X13_44 : jv_F RX13 44 11 4 RX13 TX13 36 := ⟨rfl, by decide, inX13, Or.inl (jv_at 1376 (by decide +kernel))⟩
theorem ff_X13_44 : Cond.fieldLink RX13 44 (TX13 4).1 (TX13 4).2.1 (TX13 4).2.2.1 ∈ lw_tbl := (jv_at 1376 (by decide +kernel))
theorem fl_X13_47 : jv_F RX13 47 11 14 RX13 TX13 36 := ⟨rfl, by decide, inX13, Or.inl (jv_at 1386 (by decide +kernel))⟩
theorem fl_X13_51 : jv_F RX13 51 11 15 RX13 TX13 36 := ⟨rfl, by decide, inX13, Or.inl (jv_at 1387 (by decide +kernel))⟩
theorem ff_X13_51 : Cond.fieldLink RX13 51 (TX13 15).1 (TX13 15).2.1 (TX13 15).2.2.1 ∈ lw_tbl := (jv_at 1387 (by decide +kernel))
theorem fl_X13_54 : jv_F RX13 54 11 17 RX13 TX13 36 := ⟨rfl, by decide, inX13, Or.inl (jv_at 1389 (by decide +kernel))⟩
theorem ff_X13_54 : Cond.fieldLink RX13 54 (TX13 17).1 (TX13 17).2.1 (TX13 17).2.2.1 ∈ lw_tbl := (jv_at 1389 (by decide +kernel))
theorem fl_X13_57 : jv_F RX13 57 11 19 RX13 TX13 36 := ⟨rfl, by decide, inX13, Or.inl (jv_at 1391 (by decide +kernel))⟩
theorem ff_X13_57 : Cond.fieldLink RX13 57 (TX13 19).1 (TX13 19).2.1 (TX13 19).2.2.1 ∈ lw_tbl := (jv_at 1391 (by decide +kernel))
theorem fl_X13_60 : jv_F RX13 60 11 20 RX13 TX13 36 := ⟨rfl, by decide, inX13, Or.inl (jv_at 1392 (by decide +kernel))⟩
theorem ff_X13_60 : Cond.fieldLink RX13 60 (TX13 20).1 (TX13 20).2.1 (TX13 20).2.2.1 ∈ lw_tbl := (jv_at 1392 (by decide +kernel))
theorem fl_X13_63 : jv_F RX13 63 11 21 RX13 TX13 36 := ⟨rfl, by decide, inX13, Or.inl (jv_at 1393 (by decide +kernel))⟩
theorem ff_X13_63 : Cond.fieldLink RX13 63 (TX13 21).1 (TX13 21).2.1 (TX13 21).2.2.1 ∈ lw_tbl := (jv_at 1393 (by decide +kernel))
theorem fl_X13_66 : jv_F RX13 66 11 23 RX13 TX13 36 := ⟨rfl, by decide, inX13, Or.inl (jv_at 1395 (by decide +kernel))⟩
theorem ff_X13_66 : Cond.fieldLink RX13 66 (TX13 23).1 (TX13 23).2.1 (TX13 23).2.2.1 ∈ lw_tbl := (jv_at 1395 (by decide +kernel))
theorem fl_X13_69 : jv_F RX13 69 11 24 RX13 TX13 36 := ⟨rfl, by decide, inX13, Or.inl (jv_at 1396 (by decide +kernel))⟩
theorem ff_X13_69 : Cond.fieldLink RX13 69 (TX13 24).1 (TX13 24).2.1 (TX13 24).2.2.1 ∈ lw_tbl := (jv_at 1396 (by decide +kernel))
theorem fl_X13_72 : jv_F RX13 72 11 25 RX13 TX13 36 := ⟨rfl, by decide, inX13, Or.inl (jv_at 1397 (by decide +kernel))⟩
theorem ff_X13_72 : Cond.fieldLink RX13 72 (TX13 25).1 (TX13 25).2.1 (TX13 25).2.2.1 ∈ lw_tbl := (jv_at 1397 (by decide +kernel))
theorem fl_X13_75 : jv_F RX13 75 11 30 RX13 TX13 36 := ⟨rfl, by decide, inX13, Or.inl (jv_at 1402 (by decide +kernel))⟩
theorem ff_X13_75 : Cond.fieldLink RX13 75 (TX13 30).1 (TX13 30).2.1 (TX13 30).2.2.1 ∈ lw_tbl := (jv_at 1402 (by decide +kernel))
theorem fl_X13_78 : jv_F RX13 78 11 31 RX13 TX13 36 := ⟨rfl, by decide, inX13, Or.inl (jv_at 1403 (by decide +kernel))⟩
theorem ff_X13_78 : Cond.fieldLink RX13 78 (TX13 31).1 (TX13 31).2.1 (TX13 31).2.2.1 ∈ lw_tbl := (jv_at 1403 (by decide +kernel))
theorem fl_X13_81 : jv_F RX13 81 11 32 RX13 TX13 36 := ⟨rfl, by decide, inX13, Or.inl (jv_at 1404 (by decide +kernel))⟩
theorem ff_X13_81 : Cond.fieldLink RX13 81 (TX13 32).1 (TX13 32).2.1 (TX13 32).2.2.1 ∈ lw_tbl := (jv_at 1404 (by decide +kernel))
theorem fl_X13_84 : jv_F RX13 84 11 33 RX13 TX13 36 := ⟨rfl, by decide, inX13, Or.inl (jv_at 1405 (by decide +kernel))⟩
theorem ff_X13_84 : Cond.fieldLink RX13 84 (TX13 33).1 (TX13 33).2.1 (TX13 33).2.2.1 ∈ lw_tbl := (jv_at 1405 (by decide +kernel))
theorem fl_X13_87 : jv_F RX13 87 11 34 RX13 TX13 36 := ⟨rfl, by decide, inX13, Or.inl (jv_at 1406 (by decide +kernel))⟩
theorem ff_X13_87 : Cond.fieldLink RX13 87 (TX13 34).1 (TX13 34).2.1 (TX13 34).2.2.1 ∈ lw_tbl := (jv_at 1406 (by decide +kernel))
theorem fl_X13_90 : jv_F RX13 90 11 35 RX13 TX13 36 := ⟨rfl, by decide, inX13, Or.inl (jv_at 1407 (by decide +kernel))⟩
theorem ff_X13_90 : Cond.fieldLink RX13 90 (TX13 35).1 (TX13 35).2.1 (TX13 35).2.2.1 ∈ lw_tbl := (jv_at 1407 (by decide +kernel))
theorem lk_X13_93 : Cond.methodLink RX13 93 M_X13_layFirst.1 ∈ lw_tbl := (jv_at 1365 (by decide +kernel))
set_option maxRecDepth 20000 in
theorem me_X13_layFirst : jv_me M_X13_layFirst 0 := ⟨(jv_in6 (List.mem_of_getElem? (i := 8) rfl)), (jv_at 172 (by decide +kernel)), ⟨by decide, by decide⟩, by decide +kernel⟩
theorem mv_X13_layFirst : jv_mv M_X13_layFirst := ⟨(jv_at 1367 (by decide +kernel)), (jv_at 96 (by decide +kernel))⟩
def f_X13_init (a0 : Nat) (h : jh) : Option (Unit × jh) :=
  nQ h 3 11 fun q1 h2 =>
  sS h2 q1 0 0 fun h3 =>
  sS h3 q1 1 1 fun h4 =>
  sS h4 q1 2 2 fun h5 =>
  sS h5 q1 3 3 fun h6 =>
  sS h6 q1 4 4 fun h7 =>
  sS h7 q1 5 5 fun h8 =>
  sS h8 q1 6 6 fun h9 =>
  sS h9 q1 7 7 fun h10 =>
  sS h10 q1 8 8 fun h11 =>
  sS h11 q1 9 9 fun h12 =>
  sS h12 q1 10 10 fun h13 =>
  pV h13 a0 11 0 (.ref (q1)) fun h14 =>
  nI4 h14 595 fun q15 h16 =>
  pV h16 a0 11 2 (.ref (q15)) fun h17 =>
  nI4 h17 3 fun q18 h19 =>
  pV h19 a0 11 3 (.ref (q18)) fun h20 =>
  nI4 h20 900 fun q21 h22 =>
  pV h22 a0 11 4 (.ref (q21)) fun h23 =>
  pV h23 a0 11 14 (.int ((-1))) fun h24 =>
  nI4 h24 360 fun q25 h26 =>
  pV h26 a0 11 15 (.ref (q25)) fun h27 =>
  nI4 h27 5 fun q28 h29 =>
  pV h29 a0 11 17 (.ref (q28)) fun h30 =>
  nI4 h30 23800 fun q31 h32 =>
  pV h32 a0 11 19 (.ref (q31)) fun h33 =>
  nI4 h33 595 fun q34 h35 =>
  pV h35 a0 11 20 (.ref (q34)) fun h36 =>
  nI4 h36 128 fun q37 h38 =>
  pV h38 a0 11 21 (.ref (q37)) fun h39 =>
  nI4 h39 8 fun q40 h41 =>
  pV h41 a0 11 23 (.ref (q40)) fun h42 =>
  nI4 h42 8 fun q43 h44 =>
  pV h44 a0 11 24 (.ref (q43)) fun h45 =>
  nI4 h45 8 fun q46 h47 =>
  pV h47 a0 11 25 (.ref (q46)) fun h48 =>
  nI4 h48 595 fun q49 h50 =>
  pV h50 a0 11 30 (.ref (q49)) fun h51 =>
  nI4 h51 23800 fun q52 h53 =>
  pV h53 a0 11 31 (.ref (q52)) fun h54 =>
  nI4 h54 8 fun q55 h56 =>
  pV h56 a0 11 32 (.ref (q55)) fun h57 =>
  nI4 h57 8 fun q58 h59 =>
  pV h59 a0 11 33 (.ref (q58)) fun h60 =>
  nI4 h60 8 fun q61 h62 =>
  pV h62 a0 11 34 (.ref (q61)) fun h63 =>
  nI4 h63 3 fun q64 h65 =>
  pV h65 a0 11 35 (.ref (q64)) fun h66 =>
  cV h66 a0 11 (f_X13_layFirst a0 h66) fun _ h67 =>
  some ((), h67)
theorem P_X13_init (X : jx) (a0 : Nat) (h : jh) : jv_P X M_X13_init jeV [.ref (a0)] h (f_X13_init a0 h) := by
  refine jv_P.of (by decide) rfl (by simp [Value.category]) (Nat.le_of_ble_eq_true rfl) ?_
  show jv_O X M_X13_init (h.1, h.2.1) jeV 0 [some (.ref (a0))] [] h (f_X13_init a0 h)
  unfold f_X13_init
  refine jv_aload_n (jv_dk t_X13_init (k := 0) rfl) rfl rfl (Or.inr ⟨_, rfl⟩) ?_
  refine jv_obj (jv_dk t_X13_init (k := 1) rfl) oi_X13_1 oi_2 oi_3 (Nat.le_of_ble_eq_true rfl) ⟨by decide, by decide⟩ ?_
  refine jv_aload_n (jv_dk t_X13_init (k := 2) rfl) rfl rfl (Or.inr ⟨_, rfl⟩) ?_
  refine jv_bipush (v := 11) (jv_dk t_X13_init (k := 3) rfl) (by decide) ?_
  refine jv_newQ (t := 3) (C := "java/lang/String") (jv_dk t_X13_init (k := 4) rfl) ck_X13_7 rfl (fun U hU => hU.2.2.2.2) (fun q1 h2 => ?_)
  refine jv_dup (jv_dk t_X13_init (k := 5) rfl) rfl ?_
  refine jv_iconst (v := 0) (jv_dk t_X13_init (k := 6) rfl) (by decide) ?_
  refine jv_ldcS (e := 0) (jv_dk t_X13_init (k := 7) rfl) rfl (by decide) rfl ?_
  refine jv_aastoreS (jv_dk t_X13_init (k := 8) rfl) (fun h3 => ?_)
  refine jv_dup (jv_dk t_X13_init (k := 9) rfl) rfl ?_
  refine jv_iconst (v := 1) (jv_dk t_X13_init (k := 10) rfl) (by decide) ?_
  refine jv_ldcS (e := 1) (jv_dk t_X13_init (k := 11) rfl) rfl (by decide) rfl ?_
  refine jv_aastoreS (jv_dk t_X13_init (k := 12) rfl) (fun h4 => ?_)
  refine jv_dup (jv_dk t_X13_init (k := 13) rfl) rfl ?_
  refine jv_iconst (v := 2) (jv_dk t_X13_init (k := 14) rfl) (by decide) ?_
  refine jv_ldcS (e := 2) (jv_dk t_X13_init (k := 15) rfl) rfl (by decide) rfl ?_
  refine jv_aastoreS (jv_dk t_X13_init (k := 16) rfl) (fun h5 => ?_)
  refine jv_dup (jv_dk t_X13_init (k := 17) rfl) rfl ?_
  refine jv_iconst (v := 3) (jv_dk t_X13_init (k := 18) rfl) (by decide) ?_
  refine jv_ldcS (e := 3) (jv_dk t_X13_init (k := 19) rfl) rfl (by decide) rfl ?_
  refine jv_aastoreS (jv_dk t_X13_init (k := 20) rfl) (fun h6 => ?_)
  refine jv_dup (jv_dk t_X13_init (k := 21) rfl) rfl ?_
  refine jv_iconst (v := 4) (jv_dk t_X13_init (k := 22) rfl) (by decide) ?_
  refine jv_ldcS (e := 4) (jv_dk t_X13_init (k := 23) rfl) rfl (by decide) rfl ?_
  refine jv_aastoreS (jv_dk t_X13_init (k := 24) rfl) (fun h7 => ?_)
  refine jv_dup (jv_dk t_X13_init (k := 25) rfl) rfl ?_
  refine jv_iconst (v := 5) (jv_dk t_X13_init (k := 26) rfl) (by decide) ?_
  refine jv_ldcS (e := 5) (jv_dk t_X13_init (k := 27) rfl) rfl (by decide) rfl ?_
  refine jv_aastoreS (jv_dk t_X13_init (k := 28) rfl) (fun h8 => ?_)
  refine jv_dup (jv_dk t_X13_init (k := 29) rfl) rfl ?_
  refine jv_bipush (v := 6) (jv_dk t_X13_init (k := 30) rfl) (by decide) ?_
  refine jv_ldcS (e := 6) (jv_dk t_X13_init (k := 31) rfl) rfl (by decide) rfl ?_
  refine jv_aastoreS (jv_dk t_X13_init (k := 32) rfl) (fun h9 => ?_)
  refine jv_dup (jv_dk t_X13_init (k := 33) rfl) rfl ?_
  refine jv_bipush (v := 7) (jv_dk t_X13_init (k := 34) rfl) (by decide) ?_
  refine jv_ldcS (e := 7) (jv_dk t_X13_init (k := 35) rfl) rfl (by decide) rfl ?_
  refine jv_aastoreS (jv_dk t_X13_init (k := 36) rfl) (fun h10 => ?_)
  refine jv_dup (jv_dk t_X13_init (k := 37) rfl) rfl ?_
  refine jv_bipush (v := 8) (jv_dk t_X13_init (k := 38) rfl) (by decide) ?_
  refine jv_ldcS (e := 8) (jv_dk t_X13_init (k := 39) rfl) rfl (by decide) rfl ?_
  refine jv_aastoreS (jv_dk t_X13_init (k := 40) rfl) (fun h11 => ?_)
  refine jv_dup (jv_dk t_X13_init (k := 41) rfl) rfl ?_
  refine jv_bipush (v := 9) (jv_dk t_X13_init (k := 42) rfl) (by decide) ?_
  refine jv_ldcS (e := 9) (jv_dk t_X13_init (k := 43) rfl) rfl (by decide) rfl ?_
  refine jv_aastoreS (jv_dk t_X13_init (k := 44) rfl) (fun h12 => ?_)
  refine jv_dup (jv_dk t_X13_init (k := 45) rfl) rfl ?_
  refine jv_bipush (v := 10) (jv_dk t_X13_init (k := 46) rfl) (by decide) ?_
  refine jv_ldcS (e := 10) (jv_dk t_X13_init (k := 47) rfl) rfl (by decide) rfl ?_
  refine jv_aastoreS (jv_dk t_X13_init (k := 48) rfl) (fun h13 => ?_)
  refine jv_pV (jv_dk t_X13_init (k := 49) rfl) fl_X13_31 kX13 (Or.inr ⟨rfl, rfl, rfl, ff_X13_31⟩) rfl rfl rfl (fun h14 => ?_)
  refine jv_aload_n (jv_dk t_X13_init (k := 50) rfl) rfl rfl (Or.inr ⟨_, rfl⟩) ?_
  refine jv_sipush (v := 595) (jv_dk t_X13_init (k := 51) rfl) (by decide) ?_
  refine jv_newI (jv_dk t_X13_init (k := 52) rfl) ac_I (fun q15 h16 => ?_)
  refine jv_pV (jv_dk t_X13_init (k := 53) rfl) fl_X13_37 kX13 (Or.inr ⟨rfl, rfl, rfl, ff_X13_37⟩) rfl rfl rfl (fun h17 => ?_)
  refine jv_aload_n (jv_dk t_X13_init (k := 54) rfl) rfl rfl (Or.inr ⟨_, rfl⟩) ?_
  refine jv_iconst (v := 3) (jv_dk t_X13_init (k := 55) rfl) (by decide) ?_
  refine jv_newI (jv_dk t_X13_init (k := 56) rfl) ac_I (fun q18 h19 => ?_)
  refine jv_pV (jv_dk t_X13_init (k := 57) rfl) fl_X13_41 kX13 (Or.inr ⟨rfl, rfl, rfl, ff_X13_41⟩) rfl rfl rfl (fun h20 => ?_)
  refine jv_aload_n (jv_dk t_X13_init (k := 58) rfl) rfl rfl (Or.inr ⟨_, rfl⟩) ?_
  refine jv_sipush (v := 900) (jv_dk t_X13_init (k := 59) rfl) (by decide) ?_
  refine jv_newI (jv_dk t_X13_init (k := 60) rfl) ac_I (fun q21 h22 => ?_)
  refine jv_pV (jv_dk t_X13_init (k := 61) rfl) fl_X13_44 kX13 (Or.inr ⟨rfl, rfl, rfl, ff_X13_44⟩) rfl rfl rfl (fun h23 => ?_)
  refine jv_aload_n (jv_dk t_X13_init (k := 62) rfl) rfl rfl (Or.inr ⟨_, rfl⟩) ?_
  refine jv_iconst (v := (-1)) (jv_dk t_X13_init (k := 63) rfl) (by decide) ?_
  refine jv_pV (jv_dk t_X13_init (k := 64) rfl) fl_X13_47 kX13 (Or.inl rfl) rfl rfl rfl (fun h24 => ?_)
  refine jv_aload_n (jv_dk t_X13_init (k := 65) rfl) rfl rfl (Or.inr ⟨_, rfl⟩) ?_
  refine jv_sipush (v := 360) (jv_dk t_X13_init (k := 66) rfl) (by decide) ?_
  refine jv_newI (jv_dk t_X13_init (k := 67) rfl) ac_I (fun q25 h26 => ?_)
  refine jv_pV (jv_dk t_X13_init (k := 68) rfl) fl_X13_51 kX13 (Or.inr ⟨rfl, rfl, rfl, ff_X13_51⟩) rfl rfl rfl (fun h27 => ?_)
  refine jv_aload_n (jv_dk t_X13_init (k := 69) rfl) rfl rfl (Or.inr ⟨_, rfl⟩) ?_
  refine jv_iconst (v := 5) (jv_dk t_X13_init (k := 70) rfl) (by decide) ?_
  refine jv_newI (jv_dk t_X13_init (k := 71) rfl) ac_I (fun q28 h29 => ?_)
  refine jv_pV (jv_dk t_X13_init (k := 72) rfl) fl_X13_54 kX13 (Or.inr ⟨rfl, rfl, rfl, ff_X13_54⟩) rfl rfl rfl (fun h30 => ?_)
  refine jv_aload_n (jv_dk t_X13_init (k := 73) rfl) rfl rfl (Or.inr ⟨_, rfl⟩) ?_
  refine jv_sipush (v := 23800) (jv_dk t_X13_init (k := 74) rfl) (by decide) ?_
  refine jv_newI (jv_dk t_X13_init (k := 75) rfl) ac_I (fun q31 h32 => ?_)
  refine jv_pV (jv_dk t_X13_init (k := 76) rfl) fl_X13_57 kX13 (Or.inr ⟨rfl, rfl, rfl, ff_X13_57⟩) rfl rfl rfl (fun h33 => ?_)
  refine jv_aload_n (jv_dk t_X13_init (k := 77) rfl) rfl rfl (Or.inr ⟨_, rfl⟩) ?_
  refine jv_sipush (v := 595) (jv_dk t_X13_init (k := 78) rfl) (by decide) ?_
  refine jv_newI (jv_dk t_X13_init (k := 79) rfl) ac_I (fun q34 h35 => ?_)
  refine jv_pV (jv_dk t_X13_init (k := 80) rfl) fl_X13_60 kX13 (Or.inr ⟨rfl, rfl, rfl, ff_X13_60⟩) rfl rfl rfl (fun h36 => ?_)
  refine jv_aload_n (jv_dk t_X13_init (k := 81) rfl) rfl rfl (Or.inr ⟨_, rfl⟩) ?_
  refine jv_sipush (v := 128) (jv_dk t_X13_init (k := 82) rfl) (by decide) ?_
  refine jv_newI (jv_dk t_X13_init (k := 83) rfl) ac_I (fun q37 h38 => ?_)
  refine jv_pV (jv_dk t_X13_init (k := 84) rfl) fl_X13_63 kX13 (Or.inr ⟨rfl, rfl, rfl, ff_X13_63⟩) rfl rfl rfl (fun h39 => ?_)
  refine jv_aload_n (jv_dk t_X13_init (k := 85) rfl) rfl rfl (Or.inr ⟨_, rfl⟩) ?_
  refine jv_bipush (v := 8) (jv_dk t_X13_init (k := 86) rfl) (by decide) ?_
  refine jv_newI (jv_dk t_X13_init (k := 87) rfl) ac_I (fun q40 h41 => ?_)
  refine jv_pV (jv_dk t_X13_init (k := 88) rfl) fl_X13_66 kX13 (Or.inr ⟨rfl, rfl, rfl, ff_X13_66⟩) rfl rfl rfl (fun h42 => ?_)
  refine jv_aload_n (jv_dk t_X13_init (k := 89) rfl) rfl rfl (Or.inr ⟨_, rfl⟩) ?_
  refine jv_bipush (v := 8) (jv_dk t_X13_init (k := 90) rfl) (by decide) ?_
  refine jv_newI (jv_dk t_X13_init (k := 91) rfl) ac_I (fun q43 h44 => ?_)
  refine jv_pV (jv_dk t_X13_init (k := 92) rfl) fl_X13_69 kX13 (Or.inr ⟨rfl, rfl, rfl, ff_X13_69⟩) rfl rfl rfl (fun h45 => ?_)
  refine jv_aload_n (jv_dk t_X13_init (k := 93) rfl) rfl rfl (Or.inr ⟨_, rfl⟩) ?_
  refine jv_bipush (v := 8) (jv_dk t_X13_init (k := 94) rfl) (by decide) ?_
  refine jv_newI (jv_dk t_X13_init (k := 95) rfl) ac_I (fun q46 h47 => ?_)
  refine jv_pV (jv_dk t_X13_init (k := 96) rfl) fl_X13_72 kX13 (Or.inr ⟨rfl, rfl, rfl, ff_X13_72⟩) rfl rfl rfl (fun h48 => ?_)
  refine jv_aload_n (jv_dk t_X13_init (k := 97) rfl) rfl rfl (Or.inr ⟨_, rfl⟩) ?_
  refine jv_sipush (v := 595) (jv_dk t_X13_init (k := 98) rfl) (by decide) ?_
  refine jv_newI (jv_dk t_X13_init (k := 99) rfl) ac_I (fun q49 h50 => ?_)
  refine jv_pV (jv_dk t_X13_init (k := 100) rfl) fl_X13_75 kX13 (Or.inr ⟨rfl, rfl, rfl, ff_X13_75⟩) rfl rfl rfl (fun h51 => ?_)
  refine jv_aload_n (jv_dk t_X13_init (k := 101) rfl) rfl rfl (Or.inr ⟨_, rfl⟩) ?_
  refine jv_sipush (v := 23800) (jv_dk t_X13_init (k := 102) rfl) (by decide) ?_
  refine jv_newI (jv_dk t_X13_init (k := 103) rfl) ac_I (fun q52 h53 => ?_)
  refine jv_pV (jv_dk t_X13_init (k := 104) rfl) fl_X13_78 kX13 (Or.inr ⟨rfl, rfl, rfl, ff_X13_78⟩) rfl rfl rfl (fun h54 => ?_)
  refine jv_aload_n (jv_dk t_X13_init (k := 105) rfl) rfl rfl (Or.inr ⟨_, rfl⟩) ?_
  refine jv_bipush (v := 8) (jv_dk t_X13_init (k := 106) rfl) (by decide) ?_
  refine jv_newI (jv_dk t_X13_init (k := 107) rfl) ac_I (fun q55 h56 => ?_)
  refine jv_pV (jv_dk t_X13_init (k := 108) rfl) fl_X13_81 kX13 (Or.inr ⟨rfl, rfl, rfl, ff_X13_81⟩) rfl rfl rfl (fun h57 => ?_)
  refine jv_aload_n (jv_dk t_X13_init (k := 109) rfl) rfl rfl (Or.inr ⟨_, rfl⟩) ?_
  refine jv_bipush (v := 8) (jv_dk t_X13_init (k := 110) rfl) (by decide) ?_
  refine jv_newI (jv_dk t_X13_init (k := 111) rfl) ac_I (fun q58 h59 => ?_)
  refine jv_pV (jv_dk t_X13_init (k := 112) rfl) fl_X13_84 kX13 (Or.inr ⟨rfl, rfl, rfl, ff_X13_84⟩) rfl rfl rfl (fun h60 => ?_)
  refine jv_aload_n (jv_dk t_X13_init (k := 113) rfl) rfl rfl (Or.inr ⟨_, rfl⟩) ?_
  refine jv_bipush (v := 8) (jv_dk t_X13_init (k := 114) rfl) (by decide) ?_
  refine jv_newI (jv_dk t_X13_init (k := 115) rfl) ac_I (fun q61 h62 => ?_)
  refine jv_pV (jv_dk t_X13_init (k := 116) rfl) fl_X13_87 kX13 (Or.inr ⟨rfl, rfl, rfl, ff_X13_87⟩) rfl rfl rfl (fun h63 => ?_)
  refine jv_aload_n (jv_dk t_X13_init (k := 117) rfl) rfl rfl (Or.inr ⟨_, rfl⟩) ?_
  refine jv_iconst (v := 3) (jv_dk t_X13_init (k := 118) rfl) (by decide) ?_
  refine jv_newI (jv_dk t_X13_init (k := 119) rfl) ac_I (fun q64 h65 => ?_)
  refine jv_pV (jv_dk t_X13_init (k := 120) rfl) fl_X13_90 kX13 (Or.inr ⟨rfl, rfl, rfl, ff_X13_90⟩) rfl rfl rfl (fun h66 => ?_)
  refine jv_aload_n (jv_dk t_X13_init (k := 121) rfl) rfl rfl (Or.inr ⟨_, rfl⟩) ?_
  refine jv_callV (en' := jeV) (pv := jpV) (As := []) (S := []) (jv_dk t_X13_init (k := 122) rfl) (fun _ => rfl) (Or.inl lk_X13_93) me_X13_layFirst mv_X13_layFirst ⟨by decide, by decide⟩ rfl rfl rfl (Nat.le_of_ble_eq_true rfl) (P_X13_layFirst X a0 h66) (fun _ h67 => ?_)
  show jv_O X M_X13_init _ jeV 223 [some (.ref (a0))] [] h67 _
  exact jv_vret (jv_dk t_X13_init (k := 123) rfl) rfl rfl
def t0_X13_thrown : List (Nat × Instr × Nat) := [(0, .aload_n 0, 1), (1, .getfield 96, 3), (4, .ireturn, 1)]
theorem t_X13_thrown : jv_dec cX13_thrown t0_X13_thrown = true := by decide +kernel
def M_X13_thrown : jm := (yX13_thrown, cX13_thrown, 1, (some .int), 0, 0, [])
theorem fl_X13_96 : jv_F RX13 96 11 1 RX13 TX13 36 := ⟨rfl, by decide, inX13, Or.inl (jv_at 1373 (by decide +kernel))⟩
def f_X13_thrown (a0 : Nat) (h : jh) : Option (Int32 × jh) :=
  gI h a0 11 1 fun v1 =>
  some (v1, h)
theorem P_X13_thrown (X : jx) (a0 : Nat) (h : jh) : jv_P X M_X13_thrown jeI [.ref (a0)] h (f_X13_thrown a0 h) := by
  refine jv_P.of (by decide) rfl (by simp [Value.category]) (Nat.le_of_ble_eq_true rfl) ?_
  show jv_O X M_X13_thrown (h.1, h.2.1) jeI 0 [some (.ref (a0))] [] h (f_X13_thrown a0 h)
  unfold f_X13_thrown
  refine jv_aload_n (jv_dk t_X13_thrown (k := 0) rfl) rfl rfl (Or.inr ⟨_, rfl⟩) ?_
  refine jv_gI (jv_dk t_X13_thrown (k := 1) rfl) fl_X13_96 (fun v1 => ?_)
  exact jv_iret (ty := .int) (jv_dk t_X13_thrown (k := 2) rfl) rfl rfl rfl
def t0_X13_fail : List (Nat × Instr × Nat) := [(0, .aload_n 0, 1), (1, .iload_n 1, 1), (2, .putfield 96, 3), (5, .iconst 0, 1), (6, .ireturn, 1)]
theorem t_X13_fail : jv_dec cX13_fail t0_X13_fail = true := by decide +kernel
def M_X13_fail : jm := (yX13_fail, cX13_fail, 2, (some .int), 0, 0, [])
def f_X13_fail (a0 : Nat) (a1 : Int32) (h : jh) : Option (Int32 × jh) :=
  pV h a0 11 1 (.int (a1)) fun h1 =>
  some (0, h1)
theorem P_X13_fail (X : jx) (a0 : Nat) (a1 : Int32) (h : jh) : jv_P X M_X13_fail jeI [.ref (a0), .int (a1)] h (f_X13_fail a0 a1 h) := by
  refine jv_P.of (by decide) rfl (by simp [Value.category]) (Nat.le_of_ble_eq_true rfl) ?_
  show jv_O X M_X13_fail (h.1, h.2.1) jeI 0 [some (.ref (a0)), some (.int (a1))] [] h (f_X13_fail a0 a1 h)
  unfold f_X13_fail
  refine jv_aload_n (jv_dk t_X13_fail (k := 0) rfl) rfl rfl (Or.inr ⟨_, rfl⟩) ?_
  refine jv_iload_n (jv_dk t_X13_fail (k := 1) rfl) rfl rfl ?_
  refine jv_pV (jv_dk t_X13_fail (k := 2) rfl) fl_X13_96 kX13 (Or.inl rfl) rfl rfl rfl (fun h1 => ?_)
  refine jv_iconst (v := 0) (jv_dk t_X13_fail (k := 3) rfl) (by decide) ?_
  exact jv_iret (ty := .int) (jv_dk t_X13_fail (k := 4) rfl) rfl rfl rfl
def t0_X13_isIn : List (Nat × Instr × Nat) := [(0, .iload_n 0, 1), (1, .iload_n 1, 1), (2, .if_icmp .lt 12, 3), (5, .iload_n 0, 1), (6, .iload_n 2, 1), (7, .if_icmp .gt 7, 3), (10, .iconst 1, 1), (11, .goto 4, 3), (14, .iconst 0, 1), (15, .ireturn, 1)]
theorem t_X13_isIn : jv_dec cX13_isIn t0_X13_isIn = true := by decide +kernel
def M_X13_isIn : jm := (yX13_isIn, cX13_isIn, 3, (some .boolean), 0, 0, [])
def f_X13_isIn (a0 : Int32) (a1 : Int32) (a2 : Int32) (h : jh) : Option (Int32 × jh) :=
  (if a0 < a1 then
  some (0, h)
  else
  (if a2 < a0 then
  some (0, h)
  else
  some (1, h)))
theorem P_X13_isIn (X : jx) (a0 : Int32) (a1 : Int32) (a2 : Int32) (h : jh) : jv_P X M_X13_isIn jeI [.int (a0), .int (a1), .int (a2)] h (f_X13_isIn a0 a1 a2 h) := by
  refine jv_P.of (by decide) rfl (by simp [Value.category]) (Nat.le_of_ble_eq_true rfl) ?_
  show jv_O X M_X13_isIn (h.1, h.2.1) jeI 0 [some (.int (a0)), some (.int (a1)), some (.int (a2))] [] h (f_X13_isIn a0 a1 a2 h)
  unfold f_X13_isIn
  refine jv_iload_n (jv_dk t_X13_isIn (k := 0) rfl) rfl rfl ?_
  refine jv_iload_n (jv_dk t_X13_isIn (k := 1) rfl) rfl rfl ?_
  refine jv_icmp_lt (tgt := 14) (jv_dk t_X13_isIn (k := 2) rfl) rfl (fun c1 => ?_) (fun c1 => ?_)
  · refine jv_iconst (v := 0) (jv_dk t_X13_isIn (k := 8) rfl) (by decide) ?_
    exact jv_iret (ty := .boolean) (jv_dk t_X13_isIn (k := 9) rfl) rfl rfl rfl
  · show jv_O _ _ _ _ 5 _ _ _ _
    refine jv_iload_n (jv_dk t_X13_isIn (k := 3) rfl) rfl rfl ?_
    refine jv_iload_n (jv_dk t_X13_isIn (k := 4) rfl) rfl rfl ?_
    refine jv_icmp_gt (tgt := 14) (jv_dk t_X13_isIn (k := 5) rfl) rfl (fun c2 => ?_) (fun c2 => ?_)
    · refine jv_iconst (v := 0) (jv_dk t_X13_isIn (k := 8) rfl) (by decide) ?_
      exact jv_iret (ty := .boolean) (jv_dk t_X13_isIn (k := 9) rfl) rfl rfl rfl
    · show jv_O _ _ _ _ 10 _ _ _ _
      refine jv_iconst (v := 1) (jv_dk t_X13_isIn (k := 6) rfl) (by decide) ?_
      refine jv_goto (tgt := 15) (jv_dk t_X13_isIn (k := 7) rfl) rfl ?_
      exact jv_iret (ty := .boolean) (jv_dk t_X13_isIn (k := 9) rfl) rfl rfl rfl
def t0_X13_feed : List (Nat × Instr × Nat) := [(0, .aload_n 0, 1), (1, .iconst 0, 1), (2, .putfield 96, 3), (5, .aload_n 0, 1), (6, .getfield 103, 3), (9, .bipush 20, 2), (11, .iadd, 1), (12, .sipush 900, 3), (15, .if_icmp .le 5, 3), (18, .iconst (-1), 1), (19, .ireturn, 1), (20, .iconst 0, 1), (21, .istore 6, 2), (23, .iload 6, 2), (25, .bipush 20, 2), (27, .if_icmp .ge 93, 3), (30, .iload 6, 2), (32, .iconst 4, 1), (33, .if_icmp .ge 7, 3), (36, .iload_n 1, 1), (37, .goto 39, 3), (40, .iload 6, 2), (42, .bipush 8, 2), (44, .if_icmp .ge 7, 3), (47, .iload_n 2, 1), (48, .goto 28, 3), (51, .iload 6, 2), (53, .bipush 12, 2), (55, .if_icmp .ge 7, 3), (58, .iload_n 3, 1), (59, .goto 17, 3), (62, .iload 6, 2), (64, .bipush 16, 2), (66, .if_icmp .ge 8, 3), (69, .iload 4, 2), (71, .goto 5, 3), (74, .iload 5, 2), (76, .istore 7, 2), (78, .aload_n 0, 1), (79, .getfield 44, 3), (82, .aload_n 0, 1), (83, .getfield 103, 3), (86, .iload 7, 2), (88, .bipush 24, 2), (90, .bipush 8, 2), (92, .iload 6, 2), (94, .iconst 4, 1), (95, .irem, 1), (96, .imul, 1), (97, .isub, 1), (98, .ishr, 1), (99, .sipush 255, 3), (102, .iand, 1), (103, .iastore, 1), (104, .aload_n 0, 1), (105, .dup, 1), (106, .getfield 103, 3), (109, .iconst 1, 1), (110, .iadd, 1), (111, .putfield 103, 3), (114, .iinc 6 1, 3), (117, .goto (-94), 3), (120, .aload_n 0, 1), (121, .getfield 103, 3), (124, .ireturn, 1)]
theorem t_X13_feed : jv_dec cX13_feed t0_X13_feed = true := by decide +kernel
def M_X13_feed : jm := (yX13_feed, cX13_feed, 8, (some .int), 0, 0, [])
theorem fl_X13_103 : jv_F RX13 103 11 5 RX13 TX13 36 := ⟨rfl, by decide, inX13, Or.inl (jv_at 1377 (by decide +kernel))⟩
def f_X13_feed_b76 (R23 : Nat → Int32 → Int32 → Int32 → Int32 → Int32 → Int32 → jh → Option (Int32 × jh)) (K23 : Nat → jh → Option (Int32 × jh)) (x0 : Nat) (x1 : Int32) (x2 : Int32) (x3 : Int32) (x4 : Int32) (x5 : Int32) (x6 : Int32) (s0 : Int32) (h : jh) : Option (Int32 × jh) :=
  gR h x0 11 4 fun v9 =>
  gI h x0 11 5 fun v10 =>
  sI h v9 v10 ((s0 >>> ((24 - (8 * (x6 - x6 / 4 * 4))) &&& 31)) &&& 255) fun h11 =>
  gI h11 x0 11 5 fun v12 =>
  pV h11 x0 11 5 (.int (v12 + 1)) fun h13 =>
  R23 x0 x1 x2 x3 x4 x5 (x6 + 1) h13
theorem o_f_X13_feed_b76 {X : jx} {b0 : Nat × Nat} {R23 : Nat → Int32 → Int32 → Int32 → Int32 → Int32 → Int32 → jh → Option (Int32 × jh)} {K23 : Nat → jh → Option (Int32 × jh)} (hR23 : ∀ (x0 : Nat) (x1 : Int32) (x2 : Int32) (x3 : Int32) (x4 : Int32) (x5 : Int32) (x6 : Int32) (h : jh), jv_O X M_X13_feed b0 jeI 23 [some (.ref (x0)), some (.int (x1)), some (.int (x2)), some (.int (x3)), some (.int (x4)), some (.int (x5)), some (.int (x6)), none] [] h (R23 x0 x1 x2 x3 x4 x5 x6 h)) (hK23 : ∀ (x0 : Nat) (h : jh), jv_O X M_X13_feed b0 jeI 120 [some (.ref (x0)), none, none, none, none, none, none, none] [] h (K23 x0 h)) (x0 : Nat) (x1 : Int32) (x2 : Int32) (x3 : Int32) (x4 : Int32) (x5 : Int32) (x6 : Int32) (s0 : Int32) (h : jh) : jv_O X M_X13_feed b0 jeI 76 [some (.ref (x0)), some (.int (x1)), some (.int (x2)), some (.int (x3)), some (.int (x4)), some (.int (x5)), some (.int (x6)), none] [.int (s0)] h (f_X13_feed_b76 R23 K23 x0 x1 x2 x3 x4 x5 x6 s0 h) := by
  unfold f_X13_feed_b76
  refine jv_istore (L' := [some (.ref (x0)), some (.int (x1)), some (.int (x2)), some (.int (x3)), some (.int (x4)), some (.int (x5)), some (.int (x6)), some (.int (s0))]) (jv_dk t_X13_feed (k := 37) rfl) (Nat.le_of_ble_eq_true rfl) rfl ?_
  refine jv_aload_n (jv_dk t_X13_feed (k := 38) rfl) rfl rfl (Or.inr ⟨_, rfl⟩) ?_
  refine jv_gR (jv_dk t_X13_feed (k := 39) rfl) fl_X13_44 (fun v9 => ?_)
  refine jv_aload_n (jv_dk t_X13_feed (k := 40) rfl) rfl rfl (Or.inr ⟨_, rfl⟩) ?_
  refine jv_gI (jv_dk t_X13_feed (k := 41) rfl) fl_X13_103 (fun v10 => ?_)
  refine jv_iload (jv_dk t_X13_feed (k := 42) rfl) rfl ?_
  refine jv_bipush (v := 24) (jv_dk t_X13_feed (k := 43) rfl) (by decide) ?_
  refine jv_bipush (v := 8) (jv_dk t_X13_feed (k := 44) rfl) (by decide) ?_
  refine jv_iload (jv_dk t_X13_feed (k := 45) rfl) rfl ?_
  refine jv_iconst (v := 4) (jv_dk t_X13_feed (k := 46) rfl) (by decide) ?_
  refine jv_irem (jv_dk t_X13_feed (k := 47) rfl) (by decide) ?_
  refine jv_imul (jv_dk t_X13_feed (k := 48) rfl) ?_
  refine jv_isub (jv_dk t_X13_feed (k := 49) rfl) ?_
  refine jv_ishr (jv_dk t_X13_feed (k := 50) rfl) ?_
  refine jv_sipush (v := 255) (jv_dk t_X13_feed (k := 51) rfl) (by decide) ?_
  refine jv_iand (jv_dk t_X13_feed (k := 52) rfl) ?_
  refine jv_iastore (jv_dk t_X13_feed (k := 53) rfl) (fun h11 => ?_)
  refine jv_aload_n (jv_dk t_X13_feed (k := 54) rfl) rfl rfl (Or.inr ⟨_, rfl⟩) ?_
  refine jv_dup (jv_dk t_X13_feed (k := 55) rfl) rfl ?_
  refine jv_gI (jv_dk t_X13_feed (k := 56) rfl) fl_X13_103 (fun v12 => ?_)
  refine jv_iconst (v := 1) (jv_dk t_X13_feed (k := 57) rfl) (by decide) ?_
  refine jv_iadd (jv_dk t_X13_feed (k := 58) rfl) ?_
  refine jv_pV (jv_dk t_X13_feed (k := 59) rfl) fl_X13_103 kX13 (Or.inl rfl) rfl rfl rfl (fun h13 => ?_)
  refine jv_iinc (v := 1) (L' := [some (.ref (x0)), some (.int (x1)), some (.int (x2)), some (.int (x3)), some (.int (x4)), some (.int (x5)), some (.int (x6 + 1)), some (.int (s0))]) (jv_dk t_X13_feed (k := 60) rfl) rfl (by decide) rfl ?_
  refine jv_goto (tgt := 23) (jv_dk t_X13_feed (k := 61) rfl) rfl ?_
  refine jv_le_row (jv_le_s (jv_le_s (jv_le_s (jv_le_s (jv_le_s (jv_le_s (jv_le_s (jv_le_n (jv_le_nil))))))))) ?_
  exact hR23 _ _ _ _ _ _ _ _ 
def f_X13_feed_h23 (K23 : Nat → jh → Option (Int32 × jh)) (R23 : Nat → Int32 → Int32 → Int32 → Int32 → Int32 → Int32 → jh → Option (Int32 × jh)) (x0 : Nat) (x1 : Int32) (x2 : Int32) (x3 : Int32) (x4 : Int32) (x5 : Int32) (x6 : Int32) (h : jh) : Option (Int32 × jh) :=
  (if 20 ≤ x6 then
  K23 x0 h
  else
  (if 4 ≤ x6 then
  (if 8 ≤ x6 then
  (if 12 ≤ x6 then
  (if 16 ≤ x6 then
  f_X13_feed_b76 R23 K23 x0 x1 x2 x3 x4 x5 x6 x5 h
  else
  f_X13_feed_b76 R23 K23 x0 x1 x2 x3 x4 x5 x6 x4 h)
  else
  f_X13_feed_b76 R23 K23 x0 x1 x2 x3 x4 x5 x6 x3 h)
  else
  f_X13_feed_b76 R23 K23 x0 x1 x2 x3 x4 x5 x6 x2 h)
  else
  f_X13_feed_b76 R23 K23 x0 x1 x2 x3 x4 x5 x6 x1 h))
theorem o_f_X13_feed_h23 {X : jx} {b0 : Nat × Nat} {K23 : Nat → jh → Option (Int32 × jh)} (hK23 : ∀ (x0 : Nat) (h : jh), jv_O X M_X13_feed b0 jeI 120 [some (.ref (x0)), none, none, none, none, none, none, none] [] h (K23 x0 h)) : ∀ (x0 : Nat) (x1 : Int32) (x2 : Int32) (x3 : Int32) (x4 : Int32) (x5 : Int32) (x6 : Int32) (h : jh), jv_O X M_X13_feed b0 jeI 23 [some (.ref (x0)), some (.int (x1)), some (.int (x2)), some (.int (x3)), some (.int (x4)), some (.int (x5)), some (.int (x6)), none] [] h (jlp7 (f_X13_feed_h23 K23) jfu x0 x1 x2 x3 x4 x5 x6 h) := by
  refine jlp7_ok (P := fun x0 x1 x2 x3 x4 x5 x6 h o => jv_O X M_X13_feed b0 jeI 23 [some (.ref (x0)), some (.int (x1)), some (.int (x2)), some (.int (x3)), some (.int (x4)), some (.int (x5)), some (.int (x6)), none] [] h o) (fun R23 hR23 => ?_) (fun _ _ _ _ _ _ _ _  => jv_none rfl) jfu
  intro x0 x1 x2 x3 x4 x5 x6 h
  unfold f_X13_feed_h23
  refine jv_iload (jv_dk t_X13_feed (k := 13) rfl) rfl ?_
  refine jv_bipush (v := 20) (jv_dk t_X13_feed (k := 14) rfl) (by decide) ?_
  refine jv_icmp_ge (tgt := 120) (jv_dk t_X13_feed (k := 15) rfl) rfl (fun c4 => ?_) (fun c4 => ?_)
  · refine jv_le_row (jv_le_s (jv_le_n (jv_le_n (jv_le_n (jv_le_n (jv_le_n (jv_le_n (jv_le_n (jv_le_nil))))))))) ?_
    exact hK23 _ _ 
  · show jv_O _ _ _ _ 30 _ _ _ _
    refine jv_iload (jv_dk t_X13_feed (k := 16) rfl) rfl ?_
    refine jv_iconst (v := 4) (jv_dk t_X13_feed (k := 17) rfl) (by decide) ?_
    refine jv_icmp_ge (tgt := 40) (jv_dk t_X13_feed (k := 18) rfl) rfl (fun c5 => ?_) (fun c5 => ?_)
    · refine jv_iload (jv_dk t_X13_feed (k := 21) rfl) rfl ?_
      refine jv_bipush (v := 8) (jv_dk t_X13_feed (k := 22) rfl) (by decide) ?_
      refine jv_icmp_ge (tgt := 51) (jv_dk t_X13_feed (k := 23) rfl) rfl (fun c6 => ?_) (fun c6 => ?_)
      · refine jv_iload (jv_dk t_X13_feed (k := 26) rfl) rfl ?_
        refine jv_bipush (v := 12) (jv_dk t_X13_feed (k := 27) rfl) (by decide) ?_
        refine jv_icmp_ge (tgt := 62) (jv_dk t_X13_feed (k := 28) rfl) rfl (fun c7 => ?_) (fun c7 => ?_)
        · refine jv_iload (jv_dk t_X13_feed (k := 31) rfl) rfl ?_
          refine jv_bipush (v := 16) (jv_dk t_X13_feed (k := 32) rfl) (by decide) ?_
          refine jv_icmp_ge (tgt := 74) (jv_dk t_X13_feed (k := 33) rfl) rfl (fun c8 => ?_) (fun c8 => ?_)
          · refine jv_iload (jv_dk t_X13_feed (k := 36) rfl) rfl ?_
            exact o_f_X13_feed_b76 hR23 hK23 _ _ _ _ _ _ _ _ _ 
          · show jv_O _ _ _ _ 69 _ _ _ _
            refine jv_iload (jv_dk t_X13_feed (k := 34) rfl) rfl ?_
            refine jv_goto (tgt := 76) (jv_dk t_X13_feed (k := 35) rfl) rfl ?_
            exact o_f_X13_feed_b76 hR23 hK23 _ _ _ _ _ _ _ _ _ 
        · show jv_O _ _ _ _ 58 _ _ _ _
          refine jv_iload_n (jv_dk t_X13_feed (k := 29) rfl) rfl rfl ?_
          refine jv_goto (tgt := 76) (jv_dk t_X13_feed (k := 30) rfl) rfl ?_
          exact o_f_X13_feed_b76 hR23 hK23 _ _ _ _ _ _ _ _ _ 
      · show jv_O _ _ _ _ 47 _ _ _ _
        refine jv_iload_n (jv_dk t_X13_feed (k := 24) rfl) rfl rfl ?_
        refine jv_goto (tgt := 76) (jv_dk t_X13_feed (k := 25) rfl) rfl ?_
        exact o_f_X13_feed_b76 hR23 hK23 _ _ _ _ _ _ _ _ _ 
    · show jv_O _ _ _ _ 36 _ _ _ _
      refine jv_iload_n (jv_dk t_X13_feed (k := 19) rfl) rfl rfl ?_
      refine jv_goto (tgt := 76) (jv_dk t_X13_feed (k := 20) rfl) rfl ?_
      exact o_f_X13_feed_b76 hR23 hK23 _ _ _ _ _ _ _ _ _ 
def f_X13_feed (a0 : Nat) (a1 : Int32) (a2 : Int32) (a3 : Int32) (a4 : Int32) (a5 : Int32) (h : jh) : Option (Int32 × jh) :=
  pV h a0 11 1 (.int (0)) fun h1 =>
  gI h1 a0 11 5 fun v2 =>
  (if (v2 + 20) ≤ 900 then
  jlp7 (f_X13_feed_h23 (fun y15 h14 =>
  gI h14 y15 11 5 fun v16 =>
  some (v16, h14))) jfu a0 a1 a2 a3 a4 a5 0 h1
  else
  some ((-1), h1))
theorem P_X13_feed (X : jx) (a0 : Nat) (a1 : Int32) (a2 : Int32) (a3 : Int32) (a4 : Int32) (a5 : Int32) (h : jh) : jv_P X M_X13_feed jeI [.ref (a0), .int (a1), .int (a2), .int (a3), .int (a4), .int (a5)] h (f_X13_feed a0 a1 a2 a3 a4 a5 h) := by
  refine jv_P.of (by decide) rfl (by simp [Value.category]) (Nat.le_of_ble_eq_true rfl) ?_
  show jv_O X M_X13_feed (h.1, h.2.1) jeI 0 [some (.ref (a0)), some (.int (a1)), some (.int (a2)), some (.int (a3)), some (.int (a4)), some (.int (a5)), none, none] [] h (f_X13_feed a0 a1 a2 a3 a4 a5 h)
  unfold f_X13_feed
  refine jv_aload_n (jv_dk t_X13_feed (k := 0) rfl) rfl rfl (Or.inr ⟨_, rfl⟩) ?_
  refine jv_iconst (v := 0) (jv_dk t_X13_feed (k := 1) rfl) (by decide) ?_
  refine jv_pV (jv_dk t_X13_feed (k := 2) rfl) fl_X13_96 kX13 (Or.inl rfl) rfl rfl rfl (fun h1 => ?_)
  refine jv_aload_n (jv_dk t_X13_feed (k := 3) rfl) rfl rfl (Or.inr ⟨_, rfl⟩) ?_
  refine jv_gI (jv_dk t_X13_feed (k := 4) rfl) fl_X13_103 (fun v2 => ?_)
  refine jv_bipush (v := 20) (jv_dk t_X13_feed (k := 5) rfl) (by decide) ?_
  refine jv_iadd (jv_dk t_X13_feed (k := 6) rfl) ?_
  refine jv_sipush (v := 900) (jv_dk t_X13_feed (k := 7) rfl) (by decide) ?_
  refine jv_icmp_le (tgt := 20) (jv_dk t_X13_feed (k := 8) rfl) rfl (fun c3 => ?_) (fun c3 => ?_)
  · refine jv_iconst (v := 0) (jv_dk t_X13_feed (k := 11) rfl) (by decide) ?_
    refine jv_istore (L' := [some (.ref (a0)), some (.int (a1)), some (.int (a2)), some (.int (a3)), some (.int (a4)), some (.int (a5)), some (.int (0)), none]) (jv_dk t_X13_feed (k := 12) rfl) (Nat.le_of_ble_eq_true rfl) rfl ?_
    refine o_f_X13_feed_h23 (fun y15 h14 => ?_) _ _ _ _ _ _ _ _ 
    show jv_O X M_X13_feed _ jeI 120 [some (.ref (y15)), none, none, none, none, none, none, none] [] h14 _
    refine jv_aload_n (jv_dk t_X13_feed (k := 62) rfl) rfl rfl (Or.inr ⟨_, rfl⟩) ?_
    refine jv_gI (jv_dk t_X13_feed (k := 63) rfl) fl_X13_103 (fun v16 => ?_)
    exact jv_iret (ty := .int) (jv_dk t_X13_feed (k := 64) rfl) rfl rfl rfl
  · show jv_O _ _ _ _ 18 _ _ _ _
    refine jv_iconst (v := (-1)) (jv_dk t_X13_feed (k := 9) rfl) (by decide) ?_
    exact jv_iret (ty := .int) (jv_dk t_X13_feed (k := 10) rfl) rfl rfl rfl
def t0_X13_byteAt : List (Nat × Instr × Nat) := [(0, .iload_n 1, 1), (1, .aload_n 0, 1), (2, .getfield 106, 3), (5, .if_icmp .ge 12, 3), (8, .aload_n 0, 1), (9, .getfield 44, 3), (12, .iload_n 1, 1), (13, .iaload, 1), (14, .goto 4, 3), (17, .iconst (-1), 1), (18, .ireturn, 1)]
theorem t_X13_byteAt : jv_dec cX13_byteAt t0_X13_byteAt = true := by decide +kernel
def M_X13_byteAt : jm := (yX13_byteAt, cX13_byteAt, 2, (some .int), 0, 0, [])
theorem fl_X13_106 : jv_F RX13 106 11 7 RX13 TX13 36 := ⟨rfl, by decide, inX13, Or.inl (jv_at 1379 (by decide +kernel))⟩
def f_X13_byteAt (a0 : Nat) (a1 : Int32) (h : jh) : Option (Int32 × jh) :=
  gI h a0 11 7 fun v1 =>
  (if v1 ≤ a1 then
  some ((-1), h)
  else
  gR h a0 11 4 fun v3 =>
  aI h v3 a1 fun v4 =>
  some (v4, h))
theorem P_X13_byteAt (X : jx) (a0 : Nat) (a1 : Int32) (h : jh) : jv_P X M_X13_byteAt jeI [.ref (a0), .int (a1)] h (f_X13_byteAt a0 a1 h) := by
  refine jv_P.of (by decide) rfl (by simp [Value.category]) (Nat.le_of_ble_eq_true rfl) ?_
  show jv_O X M_X13_byteAt (h.1, h.2.1) jeI 0 [some (.ref (a0)), some (.int (a1))] [] h (f_X13_byteAt a0 a1 h)
  unfold f_X13_byteAt
  refine jv_iload_n (jv_dk t_X13_byteAt (k := 0) rfl) rfl rfl ?_
  refine jv_aload_n (jv_dk t_X13_byteAt (k := 1) rfl) rfl rfl (Or.inr ⟨_, rfl⟩) ?_
  refine jv_gI (jv_dk t_X13_byteAt (k := 2) rfl) fl_X13_106 (fun v1 => ?_)
  refine jv_icmp_ge (tgt := 17) (jv_dk t_X13_byteAt (k := 3) rfl) rfl (fun c2 => ?_) (fun c2 => ?_)
  · refine jv_iconst (v := (-1)) (jv_dk t_X13_byteAt (k := 9) rfl) (by decide) ?_
    exact jv_iret (ty := .int) (jv_dk t_X13_byteAt (k := 10) rfl) rfl rfl rfl
  · show jv_O _ _ _ _ 8 _ _ _ _
    refine jv_aload_n (jv_dk t_X13_byteAt (k := 4) rfl) rfl rfl (Or.inr ⟨_, rfl⟩) ?_
    refine jv_gR (jv_dk t_X13_byteAt (k := 5) rfl) fl_X13_44 (fun v3 => ?_)
    refine jv_iload_n (jv_dk t_X13_byteAt (k := 6) rfl) rfl rfl ?_
    refine jv_iaload (jv_dk t_X13_byteAt (k := 7) rfl) (fun v4 => ?_)
    refine jv_goto (tgt := 18) (jv_dk t_X13_byteAt (k := 8) rfl) rfl ?_
    exact jv_iret (ty := .int) (jv_dk t_X13_byteAt (k := 10) rfl) rfl rfl rfl
def t0_X13_isLetter : List (Nat × Instr × Nat) := [(0, .iload_n 0, 1), (1, .bipush 97, 2), (3, .if_icmp .lt 13, 3), (6, .iload_n 0, 1), (7, .bipush 122, 2), (9, .if_icmp .gt 7, 3), (12, .iconst 1, 1), (13, .goto 4, 3), (16, .iconst 0, 1), (17, .ireturn, 1)]
theorem t_X13_isLetter : jv_dec cX13_isLetter t0_X13_isLetter = true := by decide +kernel
def M_X13_isLetter : jm := (yX13_isLetter, cX13_isLetter, 1, (some .boolean), 0, 0, [])
def f_X13_isLetter (a0 : Int32) (h : jh) : Option (Int32 × jh) :=
  (if a0 < 97 then
  some (0, h)
  else
  (if 122 < a0 then
  some (0, h)
  else
  some (1, h)))
theorem P_X13_isLetter (X : jx) (a0 : Int32) (h : jh) : jv_P X M_X13_isLetter jeI [.int (a0)] h (f_X13_isLetter a0 h) := by
  refine jv_P.of (by decide) rfl (by simp [Value.category]) (Nat.le_of_ble_eq_true rfl) ?_
  show jv_O X M_X13_isLetter (h.1, h.2.1) jeI 0 [some (.int (a0))] [] h (f_X13_isLetter a0 h)
  unfold f_X13_isLetter
  refine jv_iload_n (jv_dk t_X13_isLetter (k := 0) rfl) rfl rfl ?_
  refine jv_bipush (v := 97) (jv_dk t_X13_isLetter (k := 1) rfl) (by decide) ?_
  refine jv_icmp_lt (tgt := 16) (jv_dk t_X13_isLetter (k := 2) rfl) rfl (fun c1 => ?_) (fun c1 => ?_)
  · refine jv_iconst (v := 0) (jv_dk t_X13_isLetter (k := 8) rfl) (by decide) ?_
    exact jv_iret (ty := .boolean) (jv_dk t_X13_isLetter (k := 9) rfl) rfl rfl rfl
  · show jv_O _ _ _ _ 6 _ _ _ _
    refine jv_iload_n (jv_dk t_X13_isLetter (k := 3) rfl) rfl rfl ?_
    refine jv_bipush (v := 122) (jv_dk t_X13_isLetter (k := 4) rfl) (by decide) ?_
    refine jv_icmp_gt (tgt := 16) (jv_dk t_X13_isLetter (k := 5) rfl) rfl (fun c2 => ?_) (fun c2 => ?_)
    · refine jv_iconst (v := 0) (jv_dk t_X13_isLetter (k := 8) rfl) (by decide) ?_
      exact jv_iret (ty := .boolean) (jv_dk t_X13_isLetter (k := 9) rfl) rfl rfl rfl
    · show jv_O _ _ _ _ 12 _ _ _ _
      refine jv_iconst (v := 1) (jv_dk t_X13_isLetter (k := 6) rfl) (by decide) ?_
      refine jv_goto (tgt := 17) (jv_dk t_X13_isLetter (k := 7) rfl) rfl ?_
      exact jv_iret (ty := .boolean) (jv_dk t_X13_isLetter (k := 9) rfl) rfl rfl rfl
def t0_X13_isDigit : List (Nat × Instr × Nat) := [(0, .iload_n 0, 1), (1, .bipush 48, 2), (3, .if_icmp .lt 13, 3), (6, .iload_n 0, 1), (7, .bipush 57, 2), (9, .if_icmp .gt 7, 3), (12, .iconst 1, 1), (13, .goto 4, 3), (16, .iconst 0, 1), (17, .ireturn, 1)]
theorem t_X13_isDigit : jv_dec cX13_isDigit t0_X13_isDigit = true := by decide +kernel
def M_X13_isDigit : jm := (yX13_isDigit, cX13_isDigit, 1, (some .boolean), 0, 0, [])
def f_X13_isDigit (a0 : Int32) (h : jh) : Option (Int32 × jh) :=
  (if a0 < 48 then
  some (0, h)
  else
  (if 57 < a0 then
  some (0, h)
  else
  some (1, h)))
theorem P_X13_isDigit (X : jx) (a0 : Int32) (h : jh) : jv_P X M_X13_isDigit jeI [.int (a0)] h (f_X13_isDigit a0 h) := by
  refine jv_P.of (by decide) rfl (by simp [Value.category]) (Nat.le_of_ble_eq_true rfl) ?_
  show jv_O X M_X13_isDigit (h.1, h.2.1) jeI 0 [some (.int (a0))] [] h (f_X13_isDigit a0 h)
  unfold f_X13_isDigit
  refine jv_iload_n (jv_dk t_X13_isDigit (k := 0) rfl) rfl rfl ?_
  refine jv_bipush (v := 48) (jv_dk t_X13_isDigit (k := 1) rfl) (by decide) ?_
  refine jv_icmp_lt (tgt := 16) (jv_dk t_X13_isDigit (k := 2) rfl) rfl (fun c1 => ?_) (fun c1 => ?_)
  · refine jv_iconst (v := 0) (jv_dk t_X13_isDigit (k := 8) rfl) (by decide) ?_
    exact jv_iret (ty := .boolean) (jv_dk t_X13_isDigit (k := 9) rfl) rfl rfl rfl
  · show jv_O _ _ _ _ 6 _ _ _ _
    refine jv_iload_n (jv_dk t_X13_isDigit (k := 3) rfl) rfl rfl ?_
    refine jv_bipush (v := 57) (jv_dk t_X13_isDigit (k := 4) rfl) (by decide) ?_
    refine jv_icmp_gt (tgt := 16) (jv_dk t_X13_isDigit (k := 5) rfl) rfl (fun c2 => ?_) (fun c2 => ?_)
    · refine jv_iconst (v := 0) (jv_dk t_X13_isDigit (k := 8) rfl) (by decide) ?_
      exact jv_iret (ty := .boolean) (jv_dk t_X13_isDigit (k := 9) rfl) rfl rfl rfl
    · show jv_O _ _ _ _ 12 _ _ _ _
      refine jv_iconst (v := 1) (jv_dk t_X13_isDigit (k := 6) rfl) (by decide) ?_
      refine jv_goto (tgt := 17) (jv_dk t_X13_isDigit (k := 7) rfl) rfl ?_
      exact jv_iret (ty := .boolean) (jv_dk t_X13_isDigit (k := 9) rfl) rfl rfl rfl
def t0_X13_stepOn : List (Nat × Instr × Nat) := [(0, .aload_n 0, 1), (1, .aload_n 0, 1), (2, .getfield 109, 3), (5, .invokevirtual 112, 3), (8, .bipush 32, 2), (10, .if_icmp .eq 16, 3), (13, .aload_n 0, 1), (14, .aload_n 0, 1), (15, .getfield 109, 3), (18, .invokevirtual 112, 3), (21, .bipush 10, 2), (23, .if_icmp .ne 16, 3), (26, .aload_n 0, 1), (27, .dup, 1), (28, .getfield 109, 3), (31, .iconst 1, 1), (32, .iadd, 1), (33, .putfield 109, 3), (36, .goto (-36), 3), (39, .aload_n 0, 1), (40, .aload_n 0, 1), (41, .getfield 109, 3), (44, .putfield 116, 3), (47, .aload_n 0, 1), (48, .aload_n 0, 1), (49, .getfield 109, 3), (52, .invokevirtual 112, 3), (55, .istore_n 1, 1), (56, .iload_n 1, 1), (57, .iconst (-1), 1), (58, .if_icmp .ne 11, 3), (61, .aload_n 0, 1), (62, .iconst 0, 1), (63, .putfield 119, 3), (66, .goto 145, 3), (69, .iload_n 1, 1), (70, .invokestatic 122, 3), (73, .ifCond .eq 38, 3), (76, .aload_n 0, 1), (77, .aload_n 0, 1), (78, .getfield 109, 3), (81, .invokevirtual 112, 3), (84, .invokestatic 122, 3), (87, .ifCond .eq 16, 3), (90, .aload_n 0, 1), (91, .dup, 1), (92, .getfield 109, 3), (95, .iconst 1, 1), (96, .iadd, 1), (97, .putfield 109, 3), (100, .goto (-24), 3), (103, .aload_n 0, 1), (104, .iconst 1, 1), (105, .putfield 119, 3), (108, .goto 103, 3), (111, .iload_n 1, 1), (112, .invokestatic 126, 3), (115, .ifCond .eq 71, 3), (118, .aload_n 0, 1), (119, .iconst 0, 1), (120, .putfield 129, 3), (123, .aload_n 0, 1), (124, .aload_n 0, 1), (125, .getfield 109, 3), (128, .invokevirtual 112, 3), (131, .invokestatic 126, 3), (134, .ifCond .eq 44, 3), (137, .aload_n 0, 1), (138, .ldc 132, 2), (140, .bipush 10, 2), (142, .aload_n 0, 1), (143, .getfield 129, 3), (146, .imul, 1), (147, .aload_n 0, 1), (148, .aload_n 0, 1), (149, .getfield 109, 3), (152, .invokevirtual 112, 3), (155, .iadd, 1), (156, .bipush 48, 2), (158, .isub, 1), (159, .invokestatic 133, 3), (162, .putfield 129, 3), (165, .aload_n 0, 1), (166, .dup, 1), (167, .getfield 109, 3), (170, .iconst 1, 1), (171, .iadd, 1), (172, .putfield 109, 3), (175, .goto (-52), 3), (178, .aload_n 0, 1), (179, .iconst 2, 1), (180, .putfield 119, 3), (183, .goto 28, 3), (186, .aload_n 0, 1), (187, .dup, 1), (188, .getfield 109, 3), (191, .iconst 1, 1), (192, .iadd, 1), (193, .putfield 109, 3), (196, .aload_n 0, 1), (197, .iload_n 1, 1), (198, .bipush 59, 2), (200, .if_icmp .ne 7, 3), (203, .iconst 3, 1), (204, .goto 4, 3), (207, .iconst 4, 1), (208, .putfield 119, 3), (211, .aload_n 0, 1), (212, .aload_n 0, 1), (213, .getfield 109, 3), (216, .putfield 138, 3), (219, .return_, 1)]
theorem t_X13_stepOn : jv_dec cX13_stepOn t0_X13_stepOn = true := by decide +kernel
def M_X13_stepOn : jm := (yX13_stepOn, cX13_stepOn, 2, none, 1, 21, [])
theorem fl_X13_109 : jv_F RX13 109 11 6 RX13 TX13 36 := ⟨rfl, by decide, inX13, Or.inl (jv_at 1378 (by decide +kernel))⟩
theorem lk_X13_112 : Cond.methodLink RX13 112 M_X13_byteAt.1 ∈ lw_tbl := (jv_at 1502 (by decide +kernel))
set_option maxRecDepth 20000 in
theorem me_X13_byteAt : jv_me M_X13_byteAt 1 := ⟨(jv_in6 (List.mem_of_getElem? (i := 145) rfl)), (jv_at 172 (by decide +kernel)), ⟨by decide, by decide⟩, by decide +kernel⟩
theorem mv_X13_byteAt : jv_mv M_X13_byteAt := ⟨(jv_at 1504 (by decide +kernel)), (jv_at 99 (by decide +kernel))⟩
theorem fl_X13_116 : jv_F RX13 116 11 10 RX13 TX13 36 := ⟨rfl, by decide, inX13, Or.inl (jv_at 1382 (by decide +kernel))⟩
theorem lk_X13_122 : Cond.methodLink RX13 122 M_X13_isLetter.1 ∈ lw_tbl := (jv_at 1506 (by decide +kernel))
set_option maxRecDepth 20000 in
theorem me_X13_isLetter : jv_me M_X13_isLetter 1 := ⟨(jv_in6 (List.mem_of_getElem? (i := 148) rfl)), (jv_at 172 (by decide +kernel)), ⟨by decide, by decide⟩, by decide +kernel⟩
theorem lk_X13_126 : Cond.methodLink RX13 126 M_X13_isDigit.1 ∈ lw_tbl := (jv_at 1509 (by decide +kernel))
set_option maxRecDepth 20000 in
theorem me_X13_isDigit : jv_me M_X13_isDigit 1 := ⟨(jv_in6 (List.mem_of_getElem? (i := 151) rfl)), (jv_at 172 (by decide +kernel)), ⟨by decide, by decide⟩, by decide +kernel⟩
theorem fl_X13_119 : jv_F RX13 119 11 8 RX13 TX13 36 := ⟨rfl, by decide, inX13, Or.inl (jv_at 1380 (by decide +kernel))⟩
theorem fl_X13_138 : jv_F RX13 138 11 11 RX13 TX13 36 := ⟨rfl, by decide, inX13, Or.inl (jv_at 1383 (by decide +kernel))⟩
theorem fl_X13_129 : jv_F RX13 129 11 9 RX13 TX13 36 := ⟨rfl, by decide, inX13, Or.inl (jv_at 1381 (by decide +kernel))⟩
theorem cn_X13_132 : Cond.constant RX13 132 100000 ∈ lw_tbl := (jv_at 1512 (by decide +kernel))
theorem mt_X13_133 : Cond.methodLink RX13 133 Lib.Math.min.name ∈ lw_tbl := (jv_at 1513 (by decide +kernel))
theorem ms_X13_isDigit : jv_ms M_X13_isDigit := (jv_at 1510 (by decide +kernel))
theorem ms_X13_isLetter : jv_ms M_X13_isLetter := (jv_at 1507 (by decide +kernel))
def f_X13_stepOn_b26 (R0 : Nat → jh → Option (Unit × jh)) (K0 : Nat → jh → Option (Unit × jh)) (x0 : Nat) (h : jh) : Option (Unit × jh) :=
  gI h x0 11 6 fun v5 =>
  pV h x0 11 6 (.int (v5 + 1)) fun h6 =>
  R0 x0 h6
theorem o_f_X13_stepOn_b26 {X : jx} {b0 : Nat × Nat} {R0 : Nat → jh → Option (Unit × jh)} {K0 : Nat → jh → Option (Unit × jh)} (hR0 : ∀ (x0 : Nat) (h : jh), jv_O X M_X13_stepOn b0 jeV 0 [some (.ref (x0)), none] [] h (R0 x0 h)) (hK0 : ∀ (x0 : Nat) (h : jh), jv_O X M_X13_stepOn b0 jeV 39 [some (.ref (x0)), none] [] h (K0 x0 h)) (x0 : Nat) (h : jh) : jv_O X M_X13_stepOn b0 jeV 26 [some (.ref (x0)), none] [] h (f_X13_stepOn_b26 R0 K0 x0 h) := by
  unfold f_X13_stepOn_b26
  refine jv_aload_n (jv_dk t_X13_stepOn (k := 12) rfl) rfl rfl (Or.inr ⟨_, rfl⟩) ?_
  refine jv_dup (jv_dk t_X13_stepOn (k := 13) rfl) rfl ?_
  refine jv_gI (jv_dk t_X13_stepOn (k := 14) rfl) fl_X13_109 (fun v5 => ?_)
  refine jv_iconst (v := 1) (jv_dk t_X13_stepOn (k := 15) rfl) (by decide) ?_
  refine jv_iadd (jv_dk t_X13_stepOn (k := 16) rfl) ?_
  refine jv_pV (jv_dk t_X13_stepOn (k := 17) rfl) fl_X13_109 kX13 (Or.inl rfl) rfl rfl rfl (fun h6 => ?_)
  refine jv_goto (tgt := 0) (jv_dk t_X13_stepOn (k := 18) rfl) rfl ?_
  exact hR0 _ _ 
def f_X13_stepOn_h0 (K0 : Nat → jh → Option (Unit × jh)) (R0 : Nat → jh → Option (Unit × jh)) (x0 : Nat) (h : jh) : Option (Unit × jh) :=
  gI h x0 11 6 fun v1 =>
  cV h x0 11 (f_X13_byteAt x0 v1 h) fun v2 h3 =>
  (if v2 = 32 then
  f_X13_stepOn_b26 R0 K0 x0 h3
  else
  gI h3 x0 11 6 fun v7 =>
  cV h3 x0 11 (f_X13_byteAt x0 v7 h3) fun v8 h9 =>
  (if ¬ v8 = 10 then
  K0 x0 h9
  else
  f_X13_stepOn_b26 R0 K0 x0 h9))
theorem o_f_X13_stepOn_h0 {X : jx} {b0 : Nat × Nat} {K0 : Nat → jh → Option (Unit × jh)} (hK0 : ∀ (x0 : Nat) (h : jh), jv_O X M_X13_stepOn b0 jeV 39 [some (.ref (x0)), none] [] h (K0 x0 h)) : ∀ (x0 : Nat) (h : jh), jv_O X M_X13_stepOn b0 jeV 0 [some (.ref (x0)), none] [] h (jlp1 (f_X13_stepOn_h0 K0) jfu x0 h) := by
  refine jlp1_ok (P := fun x0 h o => jv_O X M_X13_stepOn b0 jeV 0 [some (.ref (x0)), none] [] h o) (fun R0 hR0 => ?_) (fun _ _  => jv_none rfl) jfu
  intro x0 h
  unfold f_X13_stepOn_h0
  refine jv_aload_n (jv_dk t_X13_stepOn (k := 0) rfl) rfl rfl (Or.inr ⟨_, rfl⟩) ?_
  refine jv_aload_n (jv_dk t_X13_stepOn (k := 1) rfl) rfl rfl (Or.inr ⟨_, rfl⟩) ?_
  refine jv_gI (jv_dk t_X13_stepOn (k := 2) rfl) fl_X13_109 (fun v1 => ?_)
  refine jv_callV (en' := jeI) (pv := jpI) (As := [.int (v1)]) (S := []) (jv_dk t_X13_stepOn (k := 3) rfl) (fun _ => rfl) (Or.inl lk_X13_112) me_X13_byteAt mv_X13_byteAt ⟨by decide, by decide⟩ rfl rfl rfl (Nat.le_of_ble_eq_true rfl) (P_X13_byteAt X x0 v1 h) (fun v2 h3 => ?_)
  show jv_O X M_X13_stepOn _ jeV 8 [some (.ref (x0)), none] [.int (v2)] h3 _
  refine jv_bipush (v := 32) (jv_dk t_X13_stepOn (k := 4) rfl) (by decide) ?_
  refine jv_icmp_eq (tgt := 26) (jv_dk t_X13_stepOn (k := 5) rfl) rfl (fun c4 => ?_) (fun c4 => ?_)
  · exact o_f_X13_stepOn_b26 hR0 hK0 _ _ 
  · show jv_O _ _ _ _ 13 _ _ _ _
    refine jv_aload_n (jv_dk t_X13_stepOn (k := 6) rfl) rfl rfl (Or.inr ⟨_, rfl⟩) ?_
    refine jv_aload_n (jv_dk t_X13_stepOn (k := 7) rfl) rfl rfl (Or.inr ⟨_, rfl⟩) ?_
    refine jv_gI (jv_dk t_X13_stepOn (k := 8) rfl) fl_X13_109 (fun v7 => ?_)
    refine jv_callV (en' := jeI) (pv := jpI) (As := [.int (v7)]) (S := []) (jv_dk t_X13_stepOn (k := 9) rfl) (fun _ => rfl) (Or.inl lk_X13_112) me_X13_byteAt mv_X13_byteAt ⟨by decide, by decide⟩ rfl rfl rfl (Nat.le_of_ble_eq_true rfl) (P_X13_byteAt X x0 v7 h3) (fun v8 h9 => ?_)
    show jv_O X M_X13_stepOn _ jeV 21 [some (.ref (x0)), none] [.int (v8)] h9 _
    refine jv_bipush (v := 10) (jv_dk t_X13_stepOn (k := 10) rfl) (by decide) ?_
    refine jv_icmp_ne (tgt := 39) (jv_dk t_X13_stepOn (k := 11) rfl) rfl (fun c10 => ?_) (fun c10 => ?_)
    · exact hK0 _ _ 
    · show jv_O _ _ _ _ 26 _ _ _ _
      exact o_f_X13_stepOn_b26 hR0 hK0 _ _ 
def f_X13_stepOn_b211 (x0 : Nat) (h : jh) : Option (Unit × jh) :=
  gI h x0 11 6 fun v29 =>
  pV h x0 11 11 (.int (v29)) fun h30 =>
  some ((), h30)
theorem o_f_X13_stepOn_b211 {X : jx} {b0 : Nat × Nat} (x0 : Nat) (h : jh) : jv_O X M_X13_stepOn b0 jeV 211 [some (.ref (x0)), none] [] h (f_X13_stepOn_b211 x0 h) := by
  unfold f_X13_stepOn_b211
  refine jv_aload_n (jv_dk t_X13_stepOn (k := 107) rfl) rfl rfl (Or.inr ⟨_, rfl⟩) ?_
  refine jv_aload_n (jv_dk t_X13_stepOn (k := 108) rfl) rfl rfl (Or.inr ⟨_, rfl⟩) ?_
  refine jv_gI (jv_dk t_X13_stepOn (k := 109) rfl) fl_X13_109 (fun v29 => ?_)
  refine jv_pV (jv_dk t_X13_stepOn (k := 110) rfl) fl_X13_138 kX13 (Or.inl rfl) rfl rfl rfl (fun h30 => ?_)
  exact jv_vret (jv_dk t_X13_stepOn (k := 111) rfl) rfl rfl
def f_X13_stepOn_h123 (K123 : Nat → jh → Option (Unit × jh)) (R123 : Nat → jh → Option (Unit × jh)) (x0 : Nat) (h : jh) : Option (Unit × jh) :=
  gI h x0 11 6 fun v33 =>
  cV h x0 11 (f_X13_byteAt x0 v33 h) fun v34 h35 =>
  bd (f_X13_isDigit v34 h35) fun v36 h37 =>
  (if v36 = 0 then
  K123 x0 h37
  else
  gI h37 x0 11 9 fun v39 =>
  gI h37 x0 11 6 fun v40 =>
  cV h37 x0 11 (f_X13_byteAt x0 v40 h37) fun v41 h42 =>
  lt1 (if (((10 * v39) + v41) - 48) < 100000 then (((10 * v39) + v41) - 48) else 100000) fun v43 =>
  pV h42 x0 11 9 (.int (v43)) fun h44 =>
  gI h44 x0 11 6 fun v45 =>
  pV h44 x0 11 6 (.int (v45 + 1)) fun h46 =>
  R123 x0 h46)
theorem o_f_X13_stepOn_h123 {X : jx} {b0 : Nat × Nat} {K123 : Nat → jh → Option (Unit × jh)} (hK123 : ∀ (x0 : Nat) (h : jh), jv_O X M_X13_stepOn b0 jeV 178 [some (.ref (x0)), none] [] h (K123 x0 h)) : ∀ (x0 : Nat) (h : jh), jv_O X M_X13_stepOn b0 jeV 123 [some (.ref (x0)), none] [] h (jlp1 (f_X13_stepOn_h123 K123) jfu x0 h) := by
  refine jlp1_ok (P := fun x0 h o => jv_O X M_X13_stepOn b0 jeV 123 [some (.ref (x0)), none] [] h o) (fun R123 hR123 => ?_) (fun _ _  => jv_none rfl) jfu
  intro x0 h
  unfold f_X13_stepOn_h123
  refine jv_aload_n (jv_dk t_X13_stepOn (k := 61) rfl) rfl rfl (Or.inr ⟨_, rfl⟩) ?_
  refine jv_aload_n (jv_dk t_X13_stepOn (k := 62) rfl) rfl rfl (Or.inr ⟨_, rfl⟩) ?_
  refine jv_gI (jv_dk t_X13_stepOn (k := 63) rfl) fl_X13_109 (fun v33 => ?_)
  refine jv_callV (en' := jeI) (pv := jpI) (As := [.int (v33)]) (S := []) (jv_dk t_X13_stepOn (k := 64) rfl) (fun _ => rfl) (Or.inl lk_X13_112) me_X13_byteAt mv_X13_byteAt ⟨by decide, by decide⟩ rfl rfl rfl (Nat.le_of_ble_eq_true rfl) (P_X13_byteAt X x0 v33 h) (fun v34 h35 => ?_)
  show jv_O X M_X13_stepOn _ jeV 131 [some (.ref (x0)), none] [.int (v34)] h35 _
  refine jv_callS (en' := jeI) (pv := jpI) (As := [.int (v34)]) (S := []) (jv_dk t_X13_stepOn (k := 65) rfl) (fun _ => rfl) (Or.inl lk_X13_126) me_X13_isDigit ms_X13_isDigit ⟨by decide, by decide⟩ rfl rfl (Nat.le_of_ble_eq_true rfl) (P_X13_isDigit X v34 h35) (fun v36 h37 => ?_)
  show jv_O X M_X13_stepOn _ jeV 134 [some (.ref (x0)), none] [.int (v36)] h37 _
  refine jv_if_eq (tgt := 178) (jv_dk t_X13_stepOn (k := 66) rfl) rfl (fun c38 => ?_) (fun c38 => ?_)
  · exact hK123 _ _ 
  · show jv_O _ _ _ _ 137 _ _ _ _
    refine jv_aload_n (jv_dk t_X13_stepOn (k := 67) rfl) rfl rfl (Or.inr ⟨_, rfl⟩) ?_
    refine jv_ldc (jv_dk t_X13_stepOn (k := 68) rfl) cn_X13_132 ?_
    refine jv_bipush (v := 10) (jv_dk t_X13_stepOn (k := 69) rfl) (by decide) ?_
    refine jv_aload_n (jv_dk t_X13_stepOn (k := 70) rfl) rfl rfl (Or.inr ⟨_, rfl⟩) ?_
    refine jv_gI (jv_dk t_X13_stepOn (k := 71) rfl) fl_X13_129 (fun v39 => ?_)
    refine jv_imul (jv_dk t_X13_stepOn (k := 72) rfl) ?_
    refine jv_aload_n (jv_dk t_X13_stepOn (k := 73) rfl) rfl rfl (Or.inr ⟨_, rfl⟩) ?_
    refine jv_aload_n (jv_dk t_X13_stepOn (k := 74) rfl) rfl rfl (Or.inr ⟨_, rfl⟩) ?_
    refine jv_gI (jv_dk t_X13_stepOn (k := 75) rfl) fl_X13_109 (fun v40 => ?_)
    refine jv_callV (en' := jeI) (pv := jpI) (As := [.int (v40)]) (S := [.int (10 * v39), .int (100000), .ref (x0)]) (jv_dk t_X13_stepOn (k := 76) rfl) (fun _ => rfl) (Or.inl lk_X13_112) me_X13_byteAt mv_X13_byteAt ⟨by decide, by decide⟩ rfl rfl rfl (Nat.le_of_ble_eq_true rfl) (P_X13_byteAt X x0 v40 h37) (fun v41 h42 => ?_)
    show jv_O X M_X13_stepOn _ jeV 155 [some (.ref (x0)), none] [.int (v41), .int (10 * v39), .int (100000), .ref (x0)] h42 _
    refine jv_iadd (jv_dk t_X13_stepOn (k := 77) rfl) ?_
    refine jv_bipush (v := 48) (jv_dk t_X13_stepOn (k := 78) rfl) (by decide) ?_
    refine jv_isub (jv_dk t_X13_stepOn (k := 79) rfl) ?_
    refine jv_lt1 (fun v43 e_v43 => ?_)
    refine jv_mmin (jv_dk t_X13_stepOn (k := 80) rfl) mt_X13_133 (Nat.le_of_ble_eq_true rfl) ⟨by decide, by decide⟩ ?_
    rw [← e_v43]
    refine jv_pV (jv_dk t_X13_stepOn (k := 81) rfl) fl_X13_129 kX13 (Or.inl rfl) rfl rfl rfl (fun h44 => ?_)
    refine jv_aload_n (jv_dk t_X13_stepOn (k := 82) rfl) rfl rfl (Or.inr ⟨_, rfl⟩) ?_
    refine jv_dup (jv_dk t_X13_stepOn (k := 83) rfl) rfl ?_
    refine jv_gI (jv_dk t_X13_stepOn (k := 84) rfl) fl_X13_109 (fun v45 => ?_)
    refine jv_iconst (v := 1) (jv_dk t_X13_stepOn (k := 85) rfl) (by decide) ?_
    refine jv_iadd (jv_dk t_X13_stepOn (k := 86) rfl) ?_
    refine jv_pV (jv_dk t_X13_stepOn (k := 87) rfl) fl_X13_109 kX13 (Or.inl rfl) rfl rfl rfl (fun h46 => ?_)
    refine jv_goto (tgt := 123) (jv_dk t_X13_stepOn (k := 88) rfl) rfl ?_
    exact hR123 _ _ 
def f_X13_stepOn_h76 (K76 : Nat → jh → Option (Unit × jh)) (R76 : Nat → jh → Option (Unit × jh)) (x0 : Nat) (h : jh) : Option (Unit × jh) :=
  gI h x0 11 6 fun v50 =>
  cV h x0 11 (f_X13_byteAt x0 v50 h) fun v51 h52 =>
  bd (f_X13_isLetter v51 h52) fun v53 h54 =>
  (if v53 = 0 then
  K76 x0 h54
  else
  gI h54 x0 11 6 fun v56 =>
  pV h54 x0 11 6 (.int (v56 + 1)) fun h57 =>
  R76 x0 h57)
theorem o_f_X13_stepOn_h76 {X : jx} {b0 : Nat × Nat} {K76 : Nat → jh → Option (Unit × jh)} (hK76 : ∀ (x0 : Nat) (h : jh), jv_O X M_X13_stepOn b0 jeV 103 [some (.ref (x0)), none] [] h (K76 x0 h)) : ∀ (x0 : Nat) (h : jh), jv_O X M_X13_stepOn b0 jeV 76 [some (.ref (x0)), none] [] h (jlp1 (f_X13_stepOn_h76 K76) jfu x0 h) := by
  refine jlp1_ok (P := fun x0 h o => jv_O X M_X13_stepOn b0 jeV 76 [some (.ref (x0)), none] [] h o) (fun R76 hR76 => ?_) (fun _ _  => jv_none rfl) jfu
  intro x0 h
  unfold f_X13_stepOn_h76
  refine jv_aload_n (jv_dk t_X13_stepOn (k := 38) rfl) rfl rfl (Or.inr ⟨_, rfl⟩) ?_
  refine jv_aload_n (jv_dk t_X13_stepOn (k := 39) rfl) rfl rfl (Or.inr ⟨_, rfl⟩) ?_
  refine jv_gI (jv_dk t_X13_stepOn (k := 40) rfl) fl_X13_109 (fun v50 => ?_)
  refine jv_callV (en' := jeI) (pv := jpI) (As := [.int (v50)]) (S := []) (jv_dk t_X13_stepOn (k := 41) rfl) (fun _ => rfl) (Or.inl lk_X13_112) me_X13_byteAt mv_X13_byteAt ⟨by decide, by decide⟩ rfl rfl rfl (Nat.le_of_ble_eq_true rfl) (P_X13_byteAt X x0 v50 h) (fun v51 h52 => ?_)
  show jv_O X M_X13_stepOn _ jeV 84 [some (.ref (x0)), none] [.int (v51)] h52 _
  refine jv_callS (en' := jeI) (pv := jpI) (As := [.int (v51)]) (S := []) (jv_dk t_X13_stepOn (k := 42) rfl) (fun _ => rfl) (Or.inl lk_X13_122) me_X13_isLetter ms_X13_isLetter ⟨by decide, by decide⟩ rfl rfl (Nat.le_of_ble_eq_true rfl) (P_X13_isLetter X v51 h52) (fun v53 h54 => ?_)
  show jv_O X M_X13_stepOn _ jeV 87 [some (.ref (x0)), none] [.int (v53)] h54 _
  refine jv_if_eq (tgt := 103) (jv_dk t_X13_stepOn (k := 43) rfl) rfl (fun c55 => ?_) (fun c55 => ?_)
  · exact hK76 _ _ 
  · show jv_O _ _ _ _ 90 _ _ _ _
    refine jv_aload_n (jv_dk t_X13_stepOn (k := 44) rfl) rfl rfl (Or.inr ⟨_, rfl⟩) ?_
    refine jv_dup (jv_dk t_X13_stepOn (k := 45) rfl) rfl ?_
    refine jv_gI (jv_dk t_X13_stepOn (k := 46) rfl) fl_X13_109 (fun v56 => ?_)
    refine jv_iconst (v := 1) (jv_dk t_X13_stepOn (k := 47) rfl) (by decide) ?_
    refine jv_iadd (jv_dk t_X13_stepOn (k := 48) rfl) ?_
    refine jv_pV (jv_dk t_X13_stepOn (k := 49) rfl) fl_X13_109 kX13 (Or.inl rfl) rfl rfl rfl (fun h57 => ?_)
    refine jv_goto (tgt := 76) (jv_dk t_X13_stepOn (k := 50) rfl) rfl ?_
    exact hR76 _ _ 
def f_X13_stepOn (a0 : Nat) (h : jh) : Option (Unit × jh) :=
  jlp1 (f_X13_stepOn_h0 (fun y12 h11 =>
  gI h11 y12 11 6 fun v13 =>
  pV h11 y12 11 10 (.int (v13)) fun h14 =>
  gI h14 y12 11 6 fun v15 =>
  cV h14 y12 11 (f_X13_byteAt y12 v15 h14) fun v16 h17 =>
  (if ¬ v16 = (-1) then
  bd (f_X13_isLetter v16 h17) fun v19 h20 =>
  (if v19 = 0 then
  bd (f_X13_isDigit v16 h20) fun v22 h23 =>
  (if v22 = 0 then
  gI h23 y12 11 6 fun v25 =>
  pV h23 y12 11 6 (.int (v25 + 1)) fun h26 =>
  (if ¬ v16 = 59 then
  pV h26 y12 11 8 (.int (4)) fun h28 =>
  f_X13_stepOn_b211 y12 h28
  else
  pV h26 y12 11 8 (.int (3)) fun h31 =>
  f_X13_stepOn_b211 y12 h31)
  else
  pV h23 y12 11 9 (.int (0)) fun h32 =>
  jlp1 (f_X13_stepOn_h123 (fun y48 h47 =>
  pV h47 y48 11 8 (.int (2)) fun h49 =>
  f_X13_stepOn_b211 y48 h49)) jfu y12 h32)
  else
  jlp1 (f_X13_stepOn_h76 (fun y59 h58 =>
  pV h58 y59 11 8 (.int (1)) fun h60 =>
  f_X13_stepOn_b211 y59 h60)) jfu y12 h20)
  else
  pV h17 y12 11 8 (.int (0)) fun h61 =>
  f_X13_stepOn_b211 y12 h61))) jfu a0 h
theorem P_X13_stepOn (X : jx) (a0 : Nat) (h : jh) : jv_P X M_X13_stepOn jeV [.ref (a0)] h (f_X13_stepOn a0 h) := by
  refine jv_P.of (by decide) rfl (by simp [Value.category]) (Nat.le_of_ble_eq_true rfl) ?_
  show jv_O X M_X13_stepOn (h.1, h.2.1) jeV 0 [some (.ref (a0)), none] [] h (f_X13_stepOn a0 h)
  unfold f_X13_stepOn
  refine o_f_X13_stepOn_h0 (fun y12 h11 => ?_) _ _ 
  show jv_O X M_X13_stepOn _ jeV 39 [some (.ref (y12)), none] [] h11 _
  refine jv_aload_n (jv_dk t_X13_stepOn (k := 19) rfl) rfl rfl (Or.inr ⟨_, rfl⟩) ?_
  refine jv_aload_n (jv_dk t_X13_stepOn (k := 20) rfl) rfl rfl (Or.inr ⟨_, rfl⟩) ?_
  refine jv_gI (jv_dk t_X13_stepOn (k := 21) rfl) fl_X13_109 (fun v13 => ?_)
  refine jv_pV (jv_dk t_X13_stepOn (k := 22) rfl) fl_X13_116 kX13 (Or.inl rfl) rfl rfl rfl (fun h14 => ?_)
  refine jv_aload_n (jv_dk t_X13_stepOn (k := 23) rfl) rfl rfl (Or.inr ⟨_, rfl⟩) ?_
  refine jv_aload_n (jv_dk t_X13_stepOn (k := 24) rfl) rfl rfl (Or.inr ⟨_, rfl⟩) ?_
  refine jv_gI (jv_dk t_X13_stepOn (k := 25) rfl) fl_X13_109 (fun v15 => ?_)
  refine jv_callV (en' := jeI) (pv := jpI) (As := [.int (v15)]) (S := []) (jv_dk t_X13_stepOn (k := 26) rfl) (fun _ => rfl) (Or.inl lk_X13_112) me_X13_byteAt mv_X13_byteAt ⟨by decide, by decide⟩ rfl rfl rfl (Nat.le_of_ble_eq_true rfl) (P_X13_byteAt X y12 v15 h14) (fun v16 h17 => ?_)
  show jv_O X M_X13_stepOn _ jeV 55 [some (.ref (y12)), none] [.int (v16)] h17 _
  refine jv_istore_n (L' := [some (.ref (y12)), some (.int (v16))]) (jv_dk t_X13_stepOn (k := 27) rfl) rfl (Nat.le_of_ble_eq_true rfl) rfl ?_
  refine jv_iload_n (jv_dk t_X13_stepOn (k := 28) rfl) rfl rfl ?_
  refine jv_iconst (v := (-1)) (jv_dk t_X13_stepOn (k := 29) rfl) (by decide) ?_
  refine jv_icmp_ne (tgt := 69) (jv_dk t_X13_stepOn (k := 30) rfl) rfl (fun c18 => ?_) (fun c18 => ?_)
  · refine jv_iload_n (jv_dk t_X13_stepOn (k := 35) rfl) rfl rfl ?_
    refine jv_callS (en' := jeI) (pv := jpI) (As := [.int (v16)]) (S := []) (jv_dk t_X13_stepOn (k := 36) rfl) (fun _ => rfl) (Or.inl lk_X13_122) me_X13_isLetter ms_X13_isLetter ⟨by decide, by decide⟩ rfl rfl (Nat.le_of_ble_eq_true rfl) (P_X13_isLetter X v16 h17) (fun v19 h20 => ?_)
    show jv_O X M_X13_stepOn _ jeV 73 [some (.ref (y12)), some (.int (v16))] [.int (v19)] h20 _
    refine jv_if_eq (tgt := 111) (jv_dk t_X13_stepOn (k := 37) rfl) rfl (fun c21 => ?_) (fun c21 => ?_)
    · refine jv_iload_n (jv_dk t_X13_stepOn (k := 55) rfl) rfl rfl ?_
      refine jv_callS (en' := jeI) (pv := jpI) (As := [.int (v16)]) (S := []) (jv_dk t_X13_stepOn (k := 56) rfl) (fun _ => rfl) (Or.inl lk_X13_126) me_X13_isDigit ms_X13_isDigit ⟨by decide, by decide⟩ rfl rfl (Nat.le_of_ble_eq_true rfl) (P_X13_isDigit X v16 h20) (fun v22 h23 => ?_)
      show jv_O X M_X13_stepOn _ jeV 115 [some (.ref (y12)), some (.int (v16))] [.int (v22)] h23 _
      refine jv_if_eq (tgt := 186) (jv_dk t_X13_stepOn (k := 57) rfl) rfl (fun c24 => ?_) (fun c24 => ?_)
      · refine jv_aload_n (jv_dk t_X13_stepOn (k := 93) rfl) rfl rfl (Or.inr ⟨_, rfl⟩) ?_
        refine jv_dup (jv_dk t_X13_stepOn (k := 94) rfl) rfl ?_
        refine jv_gI (jv_dk t_X13_stepOn (k := 95) rfl) fl_X13_109 (fun v25 => ?_)
        refine jv_iconst (v := 1) (jv_dk t_X13_stepOn (k := 96) rfl) (by decide) ?_
        refine jv_iadd (jv_dk t_X13_stepOn (k := 97) rfl) ?_
        refine jv_pV (jv_dk t_X13_stepOn (k := 98) rfl) fl_X13_109 kX13 (Or.inl rfl) rfl rfl rfl (fun h26 => ?_)
        refine jv_aload_n (jv_dk t_X13_stepOn (k := 99) rfl) rfl rfl (Or.inr ⟨_, rfl⟩) ?_
        refine jv_iload_n (jv_dk t_X13_stepOn (k := 100) rfl) rfl rfl ?_
        refine jv_bipush (v := 59) (jv_dk t_X13_stepOn (k := 101) rfl) (by decide) ?_
        refine jv_icmp_ne (tgt := 207) (jv_dk t_X13_stepOn (k := 102) rfl) rfl (fun c27 => ?_) (fun c27 => ?_)
        · refine jv_iconst (v := 4) (jv_dk t_X13_stepOn (k := 105) rfl) (by decide) ?_
          refine jv_pV (jv_dk t_X13_stepOn (k := 106) rfl) fl_X13_119 kX13 (Or.inl rfl) rfl rfl rfl (fun h28 => ?_)
          refine jv_le_row (jv_le_s (jv_le_n (jv_le_nil))) ?_
          exact o_f_X13_stepOn_b211 _ _ 
        · show jv_O _ _ _ _ 203 _ _ _ _
          refine jv_iconst (v := 3) (jv_dk t_X13_stepOn (k := 103) rfl) (by decide) ?_
          refine jv_goto (tgt := 208) (jv_dk t_X13_stepOn (k := 104) rfl) rfl ?_
          refine jv_pV (jv_dk t_X13_stepOn (k := 106) rfl) fl_X13_119 kX13 (Or.inl rfl) rfl rfl rfl (fun h31 => ?_)
          refine jv_le_row (jv_le_s (jv_le_n (jv_le_nil))) ?_
          exact o_f_X13_stepOn_b211 _ _ 
      · show jv_O _ _ _ _ 118 _ _ _ _
        refine jv_aload_n (jv_dk t_X13_stepOn (k := 58) rfl) rfl rfl (Or.inr ⟨_, rfl⟩) ?_
        refine jv_iconst (v := 0) (jv_dk t_X13_stepOn (k := 59) rfl) (by decide) ?_
        refine jv_pV (jv_dk t_X13_stepOn (k := 60) rfl) fl_X13_129 kX13 (Or.inl rfl) rfl rfl rfl (fun h32 => ?_)
        refine jv_le_row (jv_le_s (jv_le_n (jv_le_nil))) ?_
        refine o_f_X13_stepOn_h123 (fun y48 h47 => ?_) _ _ 
        show jv_O X M_X13_stepOn _ jeV 178 [some (.ref (y48)), none] [] h47 _
        refine jv_aload_n (jv_dk t_X13_stepOn (k := 89) rfl) rfl rfl (Or.inr ⟨_, rfl⟩) ?_
        refine jv_iconst (v := 2) (jv_dk t_X13_stepOn (k := 90) rfl) (by decide) ?_
        refine jv_pV (jv_dk t_X13_stepOn (k := 91) rfl) fl_X13_119 kX13 (Or.inl rfl) rfl rfl rfl (fun h49 => ?_)
        refine jv_goto (tgt := 211) (jv_dk t_X13_stepOn (k := 92) rfl) rfl ?_
        exact o_f_X13_stepOn_b211 _ _ 
    · show jv_O _ _ _ _ 76 _ _ _ _
      refine jv_le_row (jv_le_s (jv_le_n (jv_le_nil))) ?_
      refine o_f_X13_stepOn_h76 (fun y59 h58 => ?_) _ _ 
      show jv_O X M_X13_stepOn _ jeV 103 [some (.ref (y59)), none] [] h58 _
      refine jv_aload_n (jv_dk t_X13_stepOn (k := 51) rfl) rfl rfl (Or.inr ⟨_, rfl⟩) ?_
      refine jv_iconst (v := 1) (jv_dk t_X13_stepOn (k := 52) rfl) (by decide) ?_
      refine jv_pV (jv_dk t_X13_stepOn (k := 53) rfl) fl_X13_119 kX13 (Or.inl rfl) rfl rfl rfl (fun h60 => ?_)
      refine jv_goto (tgt := 211) (jv_dk t_X13_stepOn (k := 54) rfl) rfl ?_
      exact o_f_X13_stepOn_b211 _ _ 
  · show jv_O _ _ _ _ 61 _ _ _ _
    refine jv_aload_n (jv_dk t_X13_stepOn (k := 31) rfl) rfl rfl (Or.inr ⟨_, rfl⟩) ?_
    refine jv_iconst (v := 0) (jv_dk t_X13_stepOn (k := 32) rfl) (by decide) ?_
    refine jv_pV (jv_dk t_X13_stepOn (k := 33) rfl) fl_X13_119 kX13 (Or.inl rfl) rfl rfl rfl (fun h61 => ?_)
    refine jv_goto (tgt := 211) (jv_dk t_X13_stepOn (k := 34) rfl) rfl ?_
    refine jv_le_row (jv_le_s (jv_le_n (jv_le_nil))) ?_
    exact o_f_X13_stepOn_b211 _ _ 
def t0_X13_wrong : List (Nat × Instr × Nat) := [(0, .aload_n 0, 1), (1, .getfield 141, 3), (4, .ifCond .eq 4, 3), (7, .return_, 1), (8, .aload_n 0, 1), (9, .iload_n 1, 1), (10, .putfield 141, 3), (13, .aload_n 0, 1), (14, .aload_n 0, 1), (15, .getfield 116, 3), (18, .putfield 144, 3), (21, .return_, 1)]
theorem t_X13_wrong : jv_dec cX13_wrong t0_X13_wrong = true := by decide +kernel
def M_X13_wrong : jm := (yX13_wrong, cX13_wrong, 2, none, 0, 0, [])
theorem fl_X13_141 : jv_F RX13 141 11 12 RX13 TX13 36 := ⟨rfl, by decide, inX13, Or.inl (jv_at 1384 (by decide +kernel))⟩
theorem fl_X13_144 : jv_F RX13 144 11 13 RX13 TX13 36 := ⟨rfl, by decide, inX13, Or.inl (jv_at 1385 (by decide +kernel))⟩
def f_X13_wrong (a0 : Nat) (a1 : Int32) (h : jh) : Option (Unit × jh) :=
  gI h a0 11 12 fun v1 =>
  (if v1 = 0 then
  pV h a0 11 12 (.int (a1)) fun h3 =>
  gI h3 a0 11 10 fun v4 =>
  pV h3 a0 11 13 (.int (v4)) fun h5 =>
  some ((), h5)
  else
  some ((), h))
theorem P_X13_wrong (X : jx) (a0 : Nat) (a1 : Int32) (h : jh) : jv_P X M_X13_wrong jeV [.ref (a0), .int (a1)] h (f_X13_wrong a0 a1 h) := by
  refine jv_P.of (by decide) rfl (by simp [Value.category]) (Nat.le_of_ble_eq_true rfl) ?_
  show jv_O X M_X13_wrong (h.1, h.2.1) jeV 0 [some (.ref (a0)), some (.int (a1))] [] h (f_X13_wrong a0 a1 h)
  unfold f_X13_wrong
  refine jv_aload_n (jv_dk t_X13_wrong (k := 0) rfl) rfl rfl (Or.inr ⟨_, rfl⟩) ?_
  refine jv_gI (jv_dk t_X13_wrong (k := 1) rfl) fl_X13_141 (fun v1 => ?_)
  refine jv_if_eq (tgt := 8) (jv_dk t_X13_wrong (k := 2) rfl) rfl (fun c2 => ?_) (fun c2 => ?_)
  · refine jv_aload_n (jv_dk t_X13_wrong (k := 4) rfl) rfl rfl (Or.inr ⟨_, rfl⟩) ?_
    refine jv_iload_n (jv_dk t_X13_wrong (k := 5) rfl) rfl rfl ?_
    refine jv_pV (jv_dk t_X13_wrong (k := 6) rfl) fl_X13_141 kX13 (Or.inl rfl) rfl rfl rfl (fun h3 => ?_)
    refine jv_aload_n (jv_dk t_X13_wrong (k := 7) rfl) rfl rfl (Or.inr ⟨_, rfl⟩) ?_
    refine jv_aload_n (jv_dk t_X13_wrong (k := 8) rfl) rfl rfl (Or.inr ⟨_, rfl⟩) ?_
    refine jv_gI (jv_dk t_X13_wrong (k := 9) rfl) fl_X13_116 (fun v4 => ?_)
    refine jv_pV (jv_dk t_X13_wrong (k := 10) rfl) fl_X13_144 kX13 (Or.inl rfl) rfl rfl rfl (fun h5 => ?_)
    exact jv_vret (jv_dk t_X13_wrong (k := 11) rfl) rfl rfl
  · show jv_O _ _ _ _ 7 _ _ _ _
    exact jv_vret (jv_dk t_X13_wrong (k := 3) rfl) rfl rfl
def t0_X13_is : List (Nat × Instr × Nat) := [(0, .aload_n 0, 1), (1, .getfield 141, 3), (4, .ifCond .ne 31, 3), (7, .aload_n 0, 1), (8, .getfield 119, 3), (11, .iconst 1, 1), (12, .if_icmp .ne 23, 3), (15, .aload_n 1, 1), (16, .invokevirtual 147, 3), (19, .aload_n 0, 1), (20, .getfield 138, 3), (23, .aload_n 0, 1), (24, .getfield 116, 3), (27, .isub, 1), (28, .if_icmp .ne 7, 3), (31, .iconst 1, 1), (32, .goto 4, 3), (35, .iconst 0, 1), (36, .istore_n 2, 1), (37, .iconst 0, 1), (38, .istore_n 3, 1), (39, .iload_n 2, 1), (40, .ifCond .eq 42, 3), (43, .iload_n 3, 1), (44, .aload_n 1, 1), (45, .invokevirtual 147, 3), (48, .if_icmp .ge 34, 3), (51, .aload_n 1, 1), (52, .iload_n 3, 1), (53, .invokevirtual 151, 3), (56, .aload_n 0, 1), (57, .getfield 44, 3), (60, .aload_n 0, 1), (61, .getfield 116, 3), (64, .iload_n 3, 1), (65, .iadd, 1), (66, .iaload, 1), (67, .if_icmp .ne 7, 3), (70, .iconst 1, 1), (71, .goto 4, 3), (74, .iconst 0, 1), (75, .istore_n 2, 1), (76, .iinc 3 1, 3), (79, .goto (-40), 3), (82, .iload_n 2, 1), (83, .ireturn, 1)]
theorem t_X13_is : jv_dec cX13_is t0_X13_is = true := by decide +kernel
def M_X13_is : jm := (yX13_is, cX13_is, 4, (some .boolean), 5, 181, [])
theorem lk_X13_147 : jv_lk RX13 147 M_J0_length_8abf5 := Or.inl (jv_at 1526 (by decide +kernel))
theorem lk_X13_151 : jv_lk RX13 151 M_J0_charAt_5068e := Or.inl (jv_at 1527 (by decide +kernel))
def f_X13_is_h39 (K39 : Int32 → jh → Option (Int32 × jh)) (R39 : Nat → Nat → Int32 → Int32 → jh → Option (Int32 × jh)) (x0 : Nat) (x1 : Nat) (x2 : Int32) (x3 : Int32) (h : jh) : Option (Int32 × jh) :=
  (if x2 = 0 then
  K39 x2 h
  else
  tL x1 fun v4 =>
  (if v4 ≤ x3 then
  K39 x2 h
  else
  tC x1 x3 fun v6 =>
  gR h x0 11 4 fun v7 =>
  gI h x0 11 10 fun v8 =>
  aI h v7 (v8 + x3) fun v9 =>
  (if ¬ v6 = v9 then
  R39 x0 x1 0 (x3 + 1) h
  else
  R39 x0 x1 1 (x3 + 1) h)))
theorem o_f_X13_is_h39 {X : jx} {b0 : Nat × Nat} {K39 : Int32 → jh → Option (Int32 × jh)} (hK39 : ∀ (x2 : Int32) (h : jh), jv_O X M_X13_is b0 jeI 82 [none, none, some (.int (x2)), none] [] h (K39 x2 h)) : ∀ (x0 : Nat) (x1 : Nat) (x2 : Int32) (x3 : Int32) (h : jh), jv_O X M_X13_is b0 jeI 39 [some (.ref (x0)), some (.ref (jv_ad X (20 + x1))), some (.int (x2)), some (.int (x3))] [] h (jlp4 (f_X13_is_h39 K39) jfu x0 x1 x2 x3 h) := by
  refine jlp4_ok (P := fun x0 x1 x2 x3 h o => jv_O X M_X13_is b0 jeI 39 [some (.ref (x0)), some (.ref (jv_ad X (20 + x1))), some (.int (x2)), some (.int (x3))] [] h o) (fun R39 hR39 => ?_) (fun _ _ _ _ _  => jv_none rfl) jfu
  intro x0 x1 x2 x3 h
  unfold f_X13_is_h39
  refine jv_iload_n (jv_dk t_X13_is (k := 21) rfl) rfl rfl ?_
  refine jv_if_eq (tgt := 82) (jv_dk t_X13_is (k := 22) rfl) rfl (fun c3 => ?_) (fun c3 => ?_)
  · refine jv_le_row (jv_le_n (jv_le_n (jv_le_s (jv_le_n (jv_le_nil))))) ?_
    exact hK39 _ _ 
  · show jv_O _ _ _ _ 43 _ _ _ _
    refine jv_iload_n (jv_dk t_X13_is (k := 23) rfl) rfl rfl ?_
    refine jv_aload_n (jv_dk t_X13_is (k := 24) rfl) rfl rfl (Or.inr ⟨_, rfl⟩) ?_
    refine jv_tL (jv_dk t_X13_is (k := 25) rfl) lk_X13_147 ⟨by decide, by decide⟩ (Nat.le_of_ble_eq_true rfl) (fun v4 => ?_)
    refine jv_icmp_ge (tgt := 82) (jv_dk t_X13_is (k := 26) rfl) rfl (fun c5 => ?_) (fun c5 => ?_)
    · refine jv_le_row (jv_le_n (jv_le_n (jv_le_s (jv_le_n (jv_le_nil))))) ?_
      exact hK39 _ _ 
    · show jv_O _ _ _ _ 51 _ _ _ _
      refine jv_aload_n (jv_dk t_X13_is (k := 27) rfl) rfl rfl (Or.inr ⟨_, rfl⟩) ?_
      refine jv_iload_n (jv_dk t_X13_is (k := 28) rfl) rfl rfl ?_
      refine jv_tC (jv_dk t_X13_is (k := 29) rfl) lk_X13_151 ⟨by decide, by decide⟩ (Nat.le_of_ble_eq_true rfl) (fun v6 => ?_)
      refine jv_aload_n (jv_dk t_X13_is (k := 30) rfl) rfl rfl (Or.inr ⟨_, rfl⟩) ?_
      refine jv_gR (jv_dk t_X13_is (k := 31) rfl) fl_X13_44 (fun v7 => ?_)
      refine jv_aload_n (jv_dk t_X13_is (k := 32) rfl) rfl rfl (Or.inr ⟨_, rfl⟩) ?_
      refine jv_gI (jv_dk t_X13_is (k := 33) rfl) fl_X13_116 (fun v8 => ?_)
      refine jv_iload_n (jv_dk t_X13_is (k := 34) rfl) rfl rfl ?_
      refine jv_iadd (jv_dk t_X13_is (k := 35) rfl) ?_
      refine jv_iaload (jv_dk t_X13_is (k := 36) rfl) (fun v9 => ?_)
      refine jv_icmp_ne (tgt := 74) (jv_dk t_X13_is (k := 37) rfl) rfl (fun c10 => ?_) (fun c10 => ?_)
      · refine jv_iconst (v := 0) (jv_dk t_X13_is (k := 40) rfl) (by decide) ?_
        refine jv_istore_n (L' := [some (.ref (x0)), some (.ref (jv_ad X (20 + x1))), some (.int (0)), some (.int (x3))]) (jv_dk t_X13_is (k := 41) rfl) rfl (Nat.le_of_ble_eq_true rfl) rfl ?_
        refine jv_iinc (v := 1) (L' := [some (.ref (x0)), some (.ref (jv_ad X (20 + x1))), some (.int (0)), some (.int (x3 + 1))]) (jv_dk t_X13_is (k := 42) rfl) rfl (by decide) rfl ?_
        refine jv_goto (tgt := 39) (jv_dk t_X13_is (k := 43) rfl) rfl ?_
        exact hR39 _ _ _ _ _ 
      · show jv_O _ _ _ _ 70 _ _ _ _
        refine jv_iconst (v := 1) (jv_dk t_X13_is (k := 38) rfl) (by decide) ?_
        refine jv_goto (tgt := 75) (jv_dk t_X13_is (k := 39) rfl) rfl ?_
        refine jv_istore_n (L' := [some (.ref (x0)), some (.ref (jv_ad X (20 + x1))), some (.int (1)), some (.int (x3))]) (jv_dk t_X13_is (k := 41) rfl) rfl (Nat.le_of_ble_eq_true rfl) rfl ?_
        refine jv_iinc (v := 1) (L' := [some (.ref (x0)), some (.ref (jv_ad X (20 + x1))), some (.int (1)), some (.int (x3 + 1))]) (jv_dk t_X13_is (k := 42) rfl) rfl (by decide) rfl ?_
        refine jv_goto (tgt := 39) (jv_dk t_X13_is (k := 43) rfl) rfl ?_
        exact hR39 _ _ _ _ _ 
def f_X13_is (a0 : Nat) (a1 : Nat) (h : jh) : Option (Int32 × jh) :=
  gI h a0 11 12 fun v1 =>
  (if ¬ v1 = 0 then
  jlp4 (f_X13_is_h39 (fun y12 h11 =>
  jz y12 h11)) jfu a0 a1 0 0 h
  else
  gI h a0 11 8 fun v14 =>
  (if ¬ v14 = 1 then
  jlp4 (f_X13_is_h39 (fun y17 h16 =>
  jz y17 h16)) jfu a0 a1 0 0 h
  else
  tL a1 fun v19 =>
  gI h a0 11 11 fun v20 =>
  gI h a0 11 10 fun v21 =>
  (if ¬ v19 = (v20 - v21) then
  jlp4 (f_X13_is_h39 (fun y24 h23 =>
  jz y24 h23)) jfu a0 a1 0 0 h
  else
  jlp4 (f_X13_is_h39 (fun y27 h26 =>
  jz y27 h26)) jfu a0 a1 1 0 h)))
theorem P_X13_is (X : jx) (a0 : Nat) (a1 : Nat) (h : jh) : jv_P X M_X13_is jeI [.ref (a0), .ref (jv_ad X (20 + a1))] h (f_X13_is a0 a1 h) := by
  refine jv_P.of (by decide) rfl (by simp [Value.category]) (Nat.le_of_ble_eq_true rfl) ?_
  show jv_O X M_X13_is (h.1, h.2.1) jeI 0 [some (.ref (a0)), some (.ref (jv_ad X (20 + a1))), none, none] [] h (f_X13_is a0 a1 h)
  unfold f_X13_is
  refine jv_aload_n (jv_dk t_X13_is (k := 0) rfl) rfl rfl (Or.inr ⟨_, rfl⟩) ?_
  refine jv_gI (jv_dk t_X13_is (k := 1) rfl) fl_X13_141 (fun v1 => ?_)
  refine jv_if_ne (tgt := 35) (jv_dk t_X13_is (k := 2) rfl) rfl (fun c2 => ?_) (fun c2 => ?_)
  · refine jv_iconst (v := 0) (jv_dk t_X13_is (k := 17) rfl) (by decide) ?_
    refine jv_istore_n (L' := [some (.ref (a0)), some (.ref (jv_ad X (20 + a1))), some (.int (0)), none]) (jv_dk t_X13_is (k := 18) rfl) rfl (Nat.le_of_ble_eq_true rfl) rfl ?_
    refine jv_iconst (v := 0) (jv_dk t_X13_is (k := 19) rfl) (by decide) ?_
    refine jv_istore_n (L' := [some (.ref (a0)), some (.ref (jv_ad X (20 + a1))), some (.int (0)), some (.int (0))]) (jv_dk t_X13_is (k := 20) rfl) rfl (Nat.le_of_ble_eq_true rfl) rfl ?_
    refine o_f_X13_is_h39 (fun y12 h11 => ?_) _ _ _ _ _ 
    show jv_O X M_X13_is _ jeI 82 [none, none, some (.int (y12)), none] [] h11 _
    refine jv_iload_n (jv_dk t_X13_is (k := 44) rfl) rfl rfl ?_
    unfold jz
    by_cases c13 : y12 &&& 1 = y12
    · rw [if_pos c13]; exact jv_iret (ty := .boolean) (jv_dk t_X13_is (k := 45) rfl) rfl (jv_nb c13) rfl
    · rw [if_neg c13]; exact jv_none rfl
  · show jv_O _ _ _ _ 7 _ _ _ _
    refine jv_aload_n (jv_dk t_X13_is (k := 3) rfl) rfl rfl (Or.inr ⟨_, rfl⟩) ?_
    refine jv_gI (jv_dk t_X13_is (k := 4) rfl) fl_X13_119 (fun v14 => ?_)
    refine jv_iconst (v := 1) (jv_dk t_X13_is (k := 5) rfl) (by decide) ?_
    refine jv_icmp_ne (tgt := 35) (jv_dk t_X13_is (k := 6) rfl) rfl (fun c15 => ?_) (fun c15 => ?_)
    · refine jv_iconst (v := 0) (jv_dk t_X13_is (k := 17) rfl) (by decide) ?_
      refine jv_istore_n (L' := [some (.ref (a0)), some (.ref (jv_ad X (20 + a1))), some (.int (0)), none]) (jv_dk t_X13_is (k := 18) rfl) rfl (Nat.le_of_ble_eq_true rfl) rfl ?_
      refine jv_iconst (v := 0) (jv_dk t_X13_is (k := 19) rfl) (by decide) ?_
      refine jv_istore_n (L' := [some (.ref (a0)), some (.ref (jv_ad X (20 + a1))), some (.int (0)), some (.int (0))]) (jv_dk t_X13_is (k := 20) rfl) rfl (Nat.le_of_ble_eq_true rfl) rfl ?_
      refine o_f_X13_is_h39 (fun y17 h16 => ?_) _ _ _ _ _ 
      show jv_O X M_X13_is _ jeI 82 [none, none, some (.int (y17)), none] [] h16 _
      refine jv_iload_n (jv_dk t_X13_is (k := 44) rfl) rfl rfl ?_
      unfold jz
      by_cases c18 : y17 &&& 1 = y17
      · rw [if_pos c18]; exact jv_iret (ty := .boolean) (jv_dk t_X13_is (k := 45) rfl) rfl (jv_nb c18) rfl
      · rw [if_neg c18]; exact jv_none rfl
    · show jv_O _ _ _ _ 15 _ _ _ _
      refine jv_aload_n (jv_dk t_X13_is (k := 7) rfl) rfl rfl (Or.inr ⟨_, rfl⟩) ?_
      refine jv_tL (jv_dk t_X13_is (k := 8) rfl) lk_X13_147 ⟨by decide, by decide⟩ (Nat.le_of_ble_eq_true rfl) (fun v19 => ?_)
      refine jv_aload_n (jv_dk t_X13_is (k := 9) rfl) rfl rfl (Or.inr ⟨_, rfl⟩) ?_
      refine jv_gI (jv_dk t_X13_is (k := 10) rfl) fl_X13_138 (fun v20 => ?_)
      refine jv_aload_n (jv_dk t_X13_is (k := 11) rfl) rfl rfl (Or.inr ⟨_, rfl⟩) ?_
      refine jv_gI (jv_dk t_X13_is (k := 12) rfl) fl_X13_116 (fun v21 => ?_)
      refine jv_isub (jv_dk t_X13_is (k := 13) rfl) ?_
      refine jv_icmp_ne (tgt := 35) (jv_dk t_X13_is (k := 14) rfl) rfl (fun c22 => ?_) (fun c22 => ?_)
      · refine jv_iconst (v := 0) (jv_dk t_X13_is (k := 17) rfl) (by decide) ?_
        refine jv_istore_n (L' := [some (.ref (a0)), some (.ref (jv_ad X (20 + a1))), some (.int (0)), none]) (jv_dk t_X13_is (k := 18) rfl) rfl (Nat.le_of_ble_eq_true rfl) rfl ?_
        refine jv_iconst (v := 0) (jv_dk t_X13_is (k := 19) rfl) (by decide) ?_
        refine jv_istore_n (L' := [some (.ref (a0)), some (.ref (jv_ad X (20 + a1))), some (.int (0)), some (.int (0))]) (jv_dk t_X13_is (k := 20) rfl) rfl (Nat.le_of_ble_eq_true rfl) rfl ?_
        refine o_f_X13_is_h39 (fun y24 h23 => ?_) _ _ _ _ _ 
        show jv_O X M_X13_is _ jeI 82 [none, none, some (.int (y24)), none] [] h23 _
        refine jv_iload_n (jv_dk t_X13_is (k := 44) rfl) rfl rfl ?_
        unfold jz
        by_cases c25 : y24 &&& 1 = y24
        · rw [if_pos c25]; exact jv_iret (ty := .boolean) (jv_dk t_X13_is (k := 45) rfl) rfl (jv_nb c25) rfl
        · rw [if_neg c25]; exact jv_none rfl
      · show jv_O _ _ _ _ 31 _ _ _ _
        refine jv_iconst (v := 1) (jv_dk t_X13_is (k := 15) rfl) (by decide) ?_
        refine jv_goto (tgt := 36) (jv_dk t_X13_is (k := 16) rfl) rfl ?_
        refine jv_istore_n (L' := [some (.ref (a0)), some (.ref (jv_ad X (20 + a1))), some (.int (1)), none]) (jv_dk t_X13_is (k := 18) rfl) rfl (Nat.le_of_ble_eq_true rfl) rfl ?_
        refine jv_iconst (v := 0) (jv_dk t_X13_is (k := 19) rfl) (by decide) ?_
        refine jv_istore_n (L' := [some (.ref (a0)), some (.ref (jv_ad X (20 + a1))), some (.int (1)), some (.int (0))]) (jv_dk t_X13_is (k := 20) rfl) rfl (Nat.le_of_ble_eq_true rfl) rfl ?_
        refine o_f_X13_is_h39 (fun y27 h26 => ?_) _ _ _ _ _ 
        show jv_O X M_X13_is _ jeI 82 [none, none, some (.int (y27)), none] [] h26 _
        refine jv_iload_n (jv_dk t_X13_is (k := 44) rfl) rfl rfl ?_
        unfold jz
        by_cases c28 : y27 &&& 1 = y27
        · rw [if_pos c28]; exact jv_iret (ty := .boolean) (jv_dk t_X13_is (k := 45) rfl) rfl (jv_nb c28) rfl
        · rw [if_neg c28]; exact jv_none rfl
