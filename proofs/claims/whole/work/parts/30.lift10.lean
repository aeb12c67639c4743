def t0_X13_which : List (Nat × Instr × Nat) := [(0, .iconst 0, 1), (1, .istore_n 1, 1), (2, .iload_n 1, 1), (3, .aload_n 0, 1), (4, .getfield 31, 3), (7, .arraylength, 1), (8, .if_icmp .ge 24, 3), (11, .aload_n 0, 1), (12, .aload_n 0, 1), (13, .getfield 31, 3), (16, .iload_n 1, 1), (17, .aaload, 1), (18, .invokevirtual 155, 3), (21, .ifCond .eq 5, 3), (24, .iload_n 1, 1), (25, .ireturn, 1), (26, .iinc 1 1, 3), (29, .goto (-27), 3), (32, .iconst (-1), 1), (33, .ireturn, 1)]
theorem t_X13_which : jv_dec cX13_which t0_X13_which = true := by decide +kernel
def M_X13_which : jm := (yX13_which, cX13_which, 2, (some .int), 6, 204, [])
theorem lk_X13_155 : Cond.methodLink RX13 155 M_X13_is.1 ∈ lw_tbl := (jv_at 1522 (by decide +kernel))
set_option maxRecDepth 20000 in
theorem me_X13_is : jv_me M_X13_is 1 := ⟨(jv_in6 (List.mem_of_getElem? (i := 165) rfl)), (jv_at 172 (by decide +kernel)), ⟨by decide, by decide⟩, by decide +kernel⟩
theorem mv_X13_is : jv_mv M_X13_is := ⟨(jv_at 1524 (by decide +kernel)), (jv_at 102 (by decide +kernel))⟩
def f_X13_which_h2 (K2 : jh → Option (Int32 × jh)) (R2 : Nat → Int32 → jh → Option (Int32 × jh)) (x0 : Nat) (x1 : Int32) (h : jh) : Option (Int32 × jh) :=
  gR h x0 11 0 fun v1 =>
  lnQ h 3 v1 fun v2 =>
  (if v2 ≤ x1 then
  K2  h
  else
  gR h x0 11 0 fun v4 =>
  aQ h 3 v4 x1 fun v5 =>
  nn v5 fun r6 =>
  cV h x0 11 (f_X13_is x0 r6 h) fun v7 h8 =>
  (if v7 = 0 then
  R2 x0 (x1 + 1) h8
  else
  some (x1, h8)))
theorem o_f_X13_which_h2 {X : jx} {b0 : Nat × Nat} {K2 : jh → Option (Int32 × jh)} (hK2 : ∀  (h : jh), jv_O X M_X13_which b0 jeI 32 [none, none] [] h (K2  h)) : ∀ (x0 : Nat) (x1 : Int32) (h : jh), jv_O X M_X13_which b0 jeI 2 [some (.ref (x0)), some (.int (x1))] [] h (jlp2 (f_X13_which_h2 K2) jfu x0 x1 h) := by
  refine jlp2_ok (P := fun x0 x1 h o => jv_O X M_X13_which b0 jeI 2 [some (.ref (x0)), some (.int (x1))] [] h o) (fun R2 hR2 => ?_) (fun _ _ _  => jv_none rfl) jfu
  intro x0 x1 h
  unfold f_X13_which_h2
  refine jv_iload_n (jv_dk t_X13_which (k := 2) rfl) rfl rfl ?_
  refine jv_aload_n (jv_dk t_X13_which (k := 3) rfl) rfl rfl (Or.inr ⟨_, rfl⟩) ?_
  refine jv_gR (jv_dk t_X13_which (k := 4) rfl) fl_X13_31 (fun v1 => ?_)
  refine jv_lnS (jv_dk t_X13_which (k := 5) rfl) (fun v2 => ?_)
  refine jv_icmp_ge (tgt := 32) (jv_dk t_X13_which (k := 6) rfl) rfl (fun c3 => ?_) (fun c3 => ?_)
  · refine jv_le_row (jv_le_n (jv_le_n (jv_le_nil))) ?_
    exact hK2 _ 
  · show jv_O _ _ _ _ 11 _ _ _ _
    refine jv_aload_n (jv_dk t_X13_which (k := 7) rfl) rfl rfl (Or.inr ⟨_, rfl⟩) ?_
    refine jv_aload_n (jv_dk t_X13_which (k := 8) rfl) rfl rfl (Or.inr ⟨_, rfl⟩) ?_
    refine jv_gR (jv_dk t_X13_which (k := 9) rfl) fl_X13_31 (fun v4 => ?_)
    refine jv_iload_n (jv_dk t_X13_which (k := 10) rfl) rfl rfl ?_
    refine jv_aaloadS (jv_dk t_X13_which (k := 11) rfl) (fun v5 => ?_)
    refine jv_nn (fun r6 e_r6 => ?_)
    subst e_r6
    show jv_O X M_X13_which _ jeI 18 [some (.ref (x0)), some (.int (x1))] [.ref (jv_ad X (20 + r6)), .ref (x0)] h _
    refine jv_callV (en' := jeI) (pv := jpI) (As := [.ref (jv_ad X (20 + r6))]) (S := []) (jv_dk t_X13_which (k := 12) rfl) (fun _ => rfl) (Or.inl lk_X13_155) me_X13_is mv_X13_is ⟨by decide, by decide⟩ rfl rfl rfl (Nat.le_of_ble_eq_true rfl) (P_X13_is X x0 r6 h) (fun v7 h8 => ?_)
    show jv_O X M_X13_which _ jeI 21 [some (.ref (x0)), some (.int (x1))] [.int (v7)] h8 _
    refine jv_if_eq (tgt := 26) (jv_dk t_X13_which (k := 13) rfl) rfl (fun c9 => ?_) (fun c9 => ?_)
    · refine jv_iinc (v := 1) (L' := [some (.ref (x0)), some (.int (x1 + 1))]) (jv_dk t_X13_which (k := 16) rfl) rfl (by decide) rfl ?_
      refine jv_goto (tgt := 2) (jv_dk t_X13_which (k := 17) rfl) rfl ?_
      exact hR2 _ _ _ 
    · show jv_O _ _ _ _ 24 _ _ _ _
      refine jv_iload_n (jv_dk t_X13_which (k := 14) rfl) rfl rfl ?_
      exact jv_iret (ty := .int) (jv_dk t_X13_which (k := 15) rfl) rfl rfl rfl
def f_X13_which (a0 : Nat) (h : jh) : Option (Int32 × jh) :=
  jlp2 (f_X13_which_h2 (fun  h10 =>
  some ((-1), h10))) jfu a0 0 h
theorem P_X13_which (X : jx) (a0 : Nat) (h : jh) : jv_P X M_X13_which jeI [.ref (a0)] h (f_X13_which a0 h) := by
  refine jv_P.of (by decide) rfl (by simp [Value.category]) (Nat.le_of_ble_eq_true rfl) ?_
  show jv_O X M_X13_which (h.1, h.2.1) jeI 0 [some (.ref (a0)), none] [] h (f_X13_which a0 h)
  unfold f_X13_which
  refine jv_iconst (v := 0) (jv_dk t_X13_which (k := 0) rfl) (by decide) ?_
  refine jv_istore_n (L' := [some (.ref (a0)), some (.int (0))]) (jv_dk t_X13_which (k := 1) rfl) rfl (Nat.le_of_ble_eq_true rfl) rfl ?_
  refine o_f_X13_which_h2 (fun  h10 => ?_) _ _ _ 
  show jv_O X M_X13_which _ jeI 32 [none, none] [] h10 _
  refine jv_iconst (v := (-1)) (jv_dk t_X13_which (k := 18) rfl) (by decide) ?_
  exact jv_iret (ty := .int) (jv_dk t_X13_which (k := 19) rfl) rfl rfl rfl
def t0_X13_readNumber : List (Nat × Instr × Nat) := [(0, .aload_n 0, 1), (1, .getfield 141, 3), (4, .ifCond .eq 5, 3), (7, .iconst 0, 1), (8, .ireturn, 1), (9, .aload_n 0, 1), (10, .getfield 119, 3), (13, .iconst 2, 1), (14, .if_icmp .eq 11, 3), (17, .aload_n 0, 1), (18, .iconst 1, 1), (19, .invokevirtual 159, 3), (22, .goto 29, 3), (25, .aload_n 0, 1), (26, .getfield 138, 3), (29, .aload_n 0, 1), (30, .getfield 116, 3), (33, .isub, 1), (34, .iconst 2, 1), (35, .if_icmp .gt 11, 3), (38, .aload_n 0, 1), (39, .getfield 129, 3), (42, .iload_n 1, 1), (43, .if_icmp .le 8, 3), (46, .aload_n 0, 1), (47, .iconst 2, 1), (48, .invokevirtual 159, 3), (51, .aload_n 0, 1), (52, .getfield 129, 3), (55, .istore_n 2, 1), (56, .aload_n 0, 1), (57, .getfield 141, 3), (60, .ifCond .ne 7, 3), (63, .aload_n 0, 1), (64, .invokevirtual 163, 3), (67, .iload_n 2, 1), (68, .ireturn, 1)]
theorem t_X13_readNumber : jv_dec cX13_readNumber t0_X13_readNumber = true := by decide +kernel
def M_X13_readNumber : jm := (yX13_readNumber, cX13_readNumber, 3, (some .int), 2, 42, [])
theorem lk_X13_159 : Cond.methodLink RX13 159 M_X13_wrong.1 ∈ lw_tbl := (jv_at 1528 (by decide +kernel))
set_option maxRecDepth 20000 in
theorem me_X13_wrong : jv_me M_X13_wrong 1 := ⟨(jv_in6 (List.mem_of_getElem? (i := 171) rfl)), (jv_at 172 (by decide +kernel)), ⟨by decide, by decide⟩, by decide +kernel⟩
theorem lk_X13_163 : Cond.methodLink RX13 163 M_X13_stepOn.1 ∈ lw_tbl := (jv_at 1498 (by decide +kernel))
set_option maxRecDepth 20000 in
theorem me_X13_stepOn : jv_me M_X13_stepOn 0 := ⟨(jv_in6 (List.mem_of_getElem? (i := 141) rfl)), (jv_at 172 (by decide +kernel)), ⟨by decide, by decide⟩, by decide +kernel⟩
theorem mv_X13_stepOn : jv_mv M_X13_stepOn := ⟨(jv_at 1500 (by decide +kernel)), (jv_at 98 (by decide +kernel))⟩
theorem mv_X13_wrong : jv_mv M_X13_wrong := ⟨(jv_at 1530 (by decide +kernel)), (jv_at 103 (by decide +kernel))⟩
def f_X13_readNumber_b51 (x0 : Nat) (h : jh) : Option (Int32 × jh) :=
  gI h x0 11 9 fun v9 =>
  gI h x0 11 12 fun v10 =>
  (if ¬ v10 = 0 then
  some (v9, h)
  else
  cV h x0 11 (f_X13_stepOn x0 h) fun _ h12 =>
  some (v9, h12))
theorem o_f_X13_readNumber_b51 {X : jx} {b0 : Nat × Nat} (x0 : Nat) (h : jh) : jv_O X M_X13_readNumber b0 jeI 51 [some (.ref (x0)), none, none] [] h (f_X13_readNumber_b51 x0 h) := by
  unfold f_X13_readNumber_b51
  refine jv_aload_n (jv_dk t_X13_readNumber (k := 27) rfl) rfl rfl (Or.inr ⟨_, rfl⟩) ?_
  refine jv_gI (jv_dk t_X13_readNumber (k := 28) rfl) fl_X13_129 (fun v9 => ?_)
  refine jv_istore_n (L' := [some (.ref (x0)), none, some (.int (v9))]) (jv_dk t_X13_readNumber (k := 29) rfl) rfl (Nat.le_of_ble_eq_true rfl) rfl ?_
  refine jv_aload_n (jv_dk t_X13_readNumber (k := 30) rfl) rfl rfl (Or.inr ⟨_, rfl⟩) ?_
  refine jv_gI (jv_dk t_X13_readNumber (k := 31) rfl) fl_X13_141 (fun v10 => ?_)
  refine jv_if_ne (tgt := 67) (jv_dk t_X13_readNumber (k := 32) rfl) rfl (fun c11 => ?_) (fun c11 => ?_)
  · refine jv_iload_n (jv_dk t_X13_readNumber (k := 35) rfl) rfl rfl ?_
    exact jv_iret (ty := .int) (jv_dk t_X13_readNumber (k := 36) rfl) rfl rfl rfl
  · show jv_O _ _ _ _ 63 _ _ _ _
    refine jv_aload_n (jv_dk t_X13_readNumber (k := 33) rfl) rfl rfl (Or.inr ⟨_, rfl⟩) ?_
    refine jv_callV (en' := jeV) (pv := jpV) (As := []) (S := []) (jv_dk t_X13_readNumber (k := 34) rfl) (fun _ => rfl) (Or.inl lk_X13_163) me_X13_stepOn mv_X13_stepOn ⟨by decide, by decide⟩ rfl rfl rfl (Nat.le_of_ble_eq_true rfl) (P_X13_stepOn X x0 h) (fun _ h12 => ?_)
    show jv_O X M_X13_readNumber _ jeI 67 [some (.ref (x0)), none, some (.int (v9))] [] h12 _
    refine jv_iload_n (jv_dk t_X13_readNumber (k := 35) rfl) rfl rfl ?_
    exact jv_iret (ty := .int) (jv_dk t_X13_readNumber (k := 36) rfl) rfl rfl rfl
def f_X13_readNumber_b46 (x0 : Nat) (h : jh) : Option (Int32 × jh) :=
  cV h x0 11 (f_X13_wrong x0 2 h) fun _ h8 =>
  f_X13_readNumber_b51 x0 h8
theorem o_f_X13_readNumber_b46 {X : jx} {b0 : Nat × Nat} (x0 : Nat) (h : jh) : jv_O X M_X13_readNumber b0 jeI 46 [some (.ref (x0)), none, none] [] h (f_X13_readNumber_b46 x0 h) := by
  unfold f_X13_readNumber_b46
  refine jv_aload_n (jv_dk t_X13_readNumber (k := 24) rfl) rfl rfl (Or.inr ⟨_, rfl⟩) ?_
  refine jv_iconst (v := 2) (jv_dk t_X13_readNumber (k := 25) rfl) (by decide) ?_
  refine jv_callV (en' := jeV) (pv := jpV) (As := [.int (2)]) (S := []) (jv_dk t_X13_readNumber (k := 26) rfl) (fun _ => rfl) (Or.inl lk_X13_159) me_X13_wrong mv_X13_wrong ⟨by decide, by decide⟩ rfl rfl rfl (Nat.le_of_ble_eq_true rfl) (P_X13_wrong X x0 2 h) (fun _ h8 => ?_)
  show jv_O X M_X13_readNumber _ jeI 51 [some (.ref (x0)), none, none] [] h8 _
  exact o_f_X13_readNumber_b51 _ _ 
def f_X13_readNumber (a0 : Nat) (a1 : Int32) (h : jh) : Option (Int32 × jh) :=
  gI h a0 11 12 fun v1 =>
  (if v1 = 0 then
  gI h a0 11 8 fun v3 =>
  (if v3 = 2 then
  gI h a0 11 11 fun v5 =>
  gI h a0 11 10 fun v6 =>
  (if 2 < (v5 - v6) then
  f_X13_readNumber_b46 a0 h
  else
  gI h a0 11 9 fun v13 =>
  (if v13 ≤ a1 then
  f_X13_readNumber_b51 a0 h
  else
  f_X13_readNumber_b46 a0 h))
  else
  cV h a0 11 (f_X13_wrong a0 1 h) fun _ h15 =>
  f_X13_readNumber_b51 a0 h15)
  else
  some (0, h))
theorem P_X13_readNumber (X : jx) (a0 : Nat) (a1 : Int32) (h : jh) : jv_P X M_X13_readNumber jeI [.ref (a0), .int (a1)] h (f_X13_readNumber a0 a1 h) := by
  refine jv_P.of (by decide) rfl (by simp [Value.category]) (Nat.le_of_ble_eq_true rfl) ?_
  show jv_O X M_X13_readNumber (h.1, h.2.1) jeI 0 [some (.ref (a0)), some (.int (a1)), none] [] h (f_X13_readNumber a0 a1 h)
  unfold f_X13_readNumber
  refine jv_aload_n (jv_dk t_X13_readNumber (k := 0) rfl) rfl rfl (Or.inr ⟨_, rfl⟩) ?_
  refine jv_gI (jv_dk t_X13_readNumber (k := 1) rfl) fl_X13_141 (fun v1 => ?_)
  refine jv_if_eq (tgt := 9) (jv_dk t_X13_readNumber (k := 2) rfl) rfl (fun c2 => ?_) (fun c2 => ?_)
  · refine jv_aload_n (jv_dk t_X13_readNumber (k := 5) rfl) rfl rfl (Or.inr ⟨_, rfl⟩) ?_
    refine jv_gI (jv_dk t_X13_readNumber (k := 6) rfl) fl_X13_119 (fun v3 => ?_)
    refine jv_iconst (v := 2) (jv_dk t_X13_readNumber (k := 7) rfl) (by decide) ?_
    refine jv_icmp_eq (tgt := 25) (jv_dk t_X13_readNumber (k := 8) rfl) rfl (fun c4 => ?_) (fun c4 => ?_)
    · refine jv_aload_n (jv_dk t_X13_readNumber (k := 13) rfl) rfl rfl (Or.inr ⟨_, rfl⟩) ?_
      refine jv_gI (jv_dk t_X13_readNumber (k := 14) rfl) fl_X13_138 (fun v5 => ?_)
      refine jv_aload_n (jv_dk t_X13_readNumber (k := 15) rfl) rfl rfl (Or.inr ⟨_, rfl⟩) ?_
      refine jv_gI (jv_dk t_X13_readNumber (k := 16) rfl) fl_X13_116 (fun v6 => ?_)
      refine jv_isub (jv_dk t_X13_readNumber (k := 17) rfl) ?_
      refine jv_iconst (v := 2) (jv_dk t_X13_readNumber (k := 18) rfl) (by decide) ?_
      refine jv_icmp_gt (tgt := 46) (jv_dk t_X13_readNumber (k := 19) rfl) rfl (fun c7 => ?_) (fun c7 => ?_)
      · refine jv_le_row (jv_le_s (jv_le_n (jv_le_n (jv_le_nil)))) ?_
        exact o_f_X13_readNumber_b46 _ _ 
      · show jv_O _ _ _ _ 38 _ _ _ _
        refine jv_aload_n (jv_dk t_X13_readNumber (k := 20) rfl) rfl rfl (Or.inr ⟨_, rfl⟩) ?_
        refine jv_gI (jv_dk t_X13_readNumber (k := 21) rfl) fl_X13_129 (fun v13 => ?_)
        refine jv_iload_n (jv_dk t_X13_readNumber (k := 22) rfl) rfl rfl ?_
        refine jv_icmp_le (tgt := 51) (jv_dk t_X13_readNumber (k := 23) rfl) rfl (fun c14 => ?_) (fun c14 => ?_)
        · refine jv_le_row (jv_le_s (jv_le_n (jv_le_n (jv_le_nil)))) ?_
          exact o_f_X13_readNumber_b51 _ _ 
        · show jv_O _ _ _ _ 46 _ _ _ _
          refine jv_le_row (jv_le_s (jv_le_n (jv_le_n (jv_le_nil)))) ?_
          exact o_f_X13_readNumber_b46 _ _ 
    · show jv_O _ _ _ _ 17 _ _ _ _
      refine jv_aload_n (jv_dk t_X13_readNumber (k := 9) rfl) rfl rfl (Or.inr ⟨_, rfl⟩) ?_
      refine jv_iconst (v := 1) (jv_dk t_X13_readNumber (k := 10) rfl) (by decide) ?_
      refine jv_callV (en' := jeV) (pv := jpV) (As := [.int (1)]) (S := []) (jv_dk t_X13_readNumber (k := 11) rfl) (fun _ => rfl) (Or.inl lk_X13_159) me_X13_wrong mv_X13_wrong ⟨by decide, by decide⟩ rfl rfl rfl (Nat.le_of_ble_eq_true rfl) (P_X13_wrong X a0 1 h) (fun _ h15 => ?_)
      show jv_O X M_X13_readNumber _ jeI 22 [some (.ref (a0)), some (.int (a1)), none] [] h15 _
      refine jv_goto (tgt := 51) (jv_dk t_X13_readNumber (k := 12) rfl) rfl ?_
      refine jv_le_row (jv_le_s (jv_le_n (jv_le_n (jv_le_nil)))) ?_
      exact o_f_X13_readNumber_b51 _ _ 
  · show jv_O _ _ _ _ 7 _ _ _ _
    refine jv_iconst (v := 0) (jv_dk t_X13_readNumber (k := 3) rfl) (by decide) ?_
    exact jv_iret (ty := .int) (jv_dk t_X13_readNumber (k := 4) rfl) rfl rfl rfl
def t0_X13_kindOf : List (Nat × Instr × Nat) := [(0, .iload_n 0, 1), (1, .iconst 1, 1), (2, .if_icmp .ne 7, 3), (5, .iconst 1, 1), (6, .goto 13, 3), (9, .iload_n 0, 1), (10, .iconst 2, 1), (11, .if_icmp .ne 7, 3), (14, .iconst 0, 1), (15, .goto 4, 3), (18, .iconst 2, 1), (19, .ireturn, 1)]
theorem t_X13_kindOf : jv_dec cX13_kindOf t0_X13_kindOf = true := by decide +kernel
def M_X13_kindOf : jm := (yX13_kindOf, cX13_kindOf, 1, (some .int), 0, 0, [])
def f_X13_kindOf (a0 : Int32) (h : jh) : Option (Int32 × jh) :=
  (if ¬ a0 = 1 then
  (if ¬ a0 = 2 then
  some (2, h)
  else
  some (0, h))
  else
  some (1, h))
theorem P_X13_kindOf (X : jx) (a0 : Int32) (h : jh) : jv_P X M_X13_kindOf jeI [.int (a0)] h (f_X13_kindOf a0 h) := by
  refine jv_P.of (by decide) rfl (by simp [Value.category]) (Nat.le_of_ble_eq_true rfl) ?_
  show jv_O X M_X13_kindOf (h.1, h.2.1) jeI 0 [some (.int (a0))] [] h (f_X13_kindOf a0 h)
  unfold f_X13_kindOf
  refine jv_iload_n (jv_dk t_X13_kindOf (k := 0) rfl) rfl rfl ?_
  refine jv_iconst (v := 1) (jv_dk t_X13_kindOf (k := 1) rfl) (by decide) ?_
  refine jv_icmp_ne (tgt := 9) (jv_dk t_X13_kindOf (k := 2) rfl) rfl (fun c1 => ?_) (fun c1 => ?_)
  · refine jv_iload_n (jv_dk t_X13_kindOf (k := 5) rfl) rfl rfl ?_
    refine jv_iconst (v := 2) (jv_dk t_X13_kindOf (k := 6) rfl) (by decide) ?_
    refine jv_icmp_ne (tgt := 18) (jv_dk t_X13_kindOf (k := 7) rfl) rfl (fun c2 => ?_) (fun c2 => ?_)
    · refine jv_iconst (v := 2) (jv_dk t_X13_kindOf (k := 10) rfl) (by decide) ?_
      exact jv_iret (ty := .int) (jv_dk t_X13_kindOf (k := 11) rfl) rfl rfl rfl
    · show jv_O _ _ _ _ 14 _ _ _ _
      refine jv_iconst (v := 0) (jv_dk t_X13_kindOf (k := 8) rfl) (by decide) ?_
      refine jv_goto (tgt := 19) (jv_dk t_X13_kindOf (k := 9) rfl) rfl ?_
      exact jv_iret (ty := .int) (jv_dk t_X13_kindOf (k := 11) rfl) rfl rfl rfl
  · show jv_O _ _ _ _ 5 _ _ _ _
    refine jv_iconst (v := 1) (jv_dk t_X13_kindOf (k := 3) rfl) (by decide) ?_
    refine jv_goto (tgt := 19) (jv_dk t_X13_kindOf (k := 4) rfl) rfl ?_
    exact jv_iret (ty := .int) (jv_dk t_X13_kindOf (k := 11) rfl) rfl rfl rfl
def t0_X13_readKind : List (Nat × Instr × Nat) := [(0, .aload_n 0, 1), (1, .invokevirtual 166, 3), (4, .istore_n 1, 1), (5, .aload_n 0, 1), (6, .getfield 141, 3), (9, .ifCond .ne 17, 3), (12, .iload_n 1, 1), (13, .iconst 1, 1), (14, .iconst 3, 1), (15, .invokestatic 169, 3), (18, .ifCond .ne 8, 3), (21, .aload_n 0, 1), (22, .iconst 1, 1), (23, .invokevirtual 159, 3), (26, .aload_n 0, 1), (27, .getfield 141, 3), (30, .ifCond .ne 7, 3), (33, .aload_n 0, 1), (34, .invokevirtual 163, 3), (37, .iload_n 1, 1), (38, .invokestatic 173, 3), (41, .ireturn, 1)]
theorem t_X13_readKind : jv_dec cX13_readKind t0_X13_readKind = true := by decide +kernel
def M_X13_readKind : jm := (yX13_readKind, cX13_readKind, 2, (some .int), 7, 225, [])
theorem lk_X13_166 : Cond.methodLink RX13 166 M_X13_which.1 ∈ lw_tbl := (jv_at 1518 (by decide +kernel))
set_option maxRecDepth 20000 in
theorem me_X13_which : jv_me M_X13_which 0 := ⟨(jv_in6 (List.mem_of_getElem? (i := 161) rfl)), (jv_at 172 (by decide +kernel)), ⟨by decide, by decide⟩, by decide +kernel⟩
theorem lk_X13_173 : Cond.methodLink RX13 173 M_X13_kindOf.1 ∈ lw_tbl := (jv_at 1543 (by decide +kernel))
set_option maxRecDepth 20000 in
theorem me_X13_kindOf : jv_me M_X13_kindOf 1 := ⟨(jv_in6 (List.mem_of_getElem? (i := 185) rfl)), (jv_at 172 (by decide +kernel)), ⟨by decide, by decide⟩, by decide +kernel⟩
theorem ms_X13_kindOf : jv_ms M_X13_kindOf := (jv_at 1544 (by decide +kernel))
theorem lk_X13_169 : Cond.methodLink RX13 169 M_X13_isIn.1 ∈ lw_tbl := (jv_at 1540 (by decide +kernel))
set_option maxRecDepth 20000 in
theorem me_X13_isIn : jv_me M_X13_isIn 3 := ⟨(jv_in6 (List.mem_of_getElem? (i := 182) rfl)), (jv_at 172 (by decide +kernel)), ⟨by decide, by decide⟩, by decide +kernel⟩
theorem ms_X13_isIn : jv_ms M_X13_isIn := (jv_at 1541 (by decide +kernel))
theorem mv_X13_which : jv_mv M_X13_which := ⟨(jv_at 1520 (by decide +kernel)), (jv_at 101 (by decide +kernel))⟩
def f_X13_readKind_b37 (x1 : Int32) (h : jh) : Option (Int32 × jh) :=
  bd (f_X13_kindOf x1 h) fun v7 h8 =>
  some (v7, h8)
theorem o_f_X13_readKind_b37 {X : jx} {b0 : Nat × Nat} (x1 : Int32) (h : jh) : jv_O X M_X13_readKind b0 jeI 37 [none, some (.int (x1))] [] h (f_X13_readKind_b37 x1 h) := by
  unfold f_X13_readKind_b37
  refine jv_iload_n (jv_dk t_X13_readKind (k := 19) rfl) rfl rfl ?_
  refine jv_callS (en' := jeI) (pv := jpI) (As := [.int (x1)]) (S := []) (jv_dk t_X13_readKind (k := 20) rfl) (fun _ => rfl) (Or.inl lk_X13_173) me_X13_kindOf ms_X13_kindOf ⟨by decide, by decide⟩ rfl rfl (Nat.le_of_ble_eq_true rfl) (P_X13_kindOf X x1 h) (fun v7 h8 => ?_)
  show jv_O X M_X13_readKind _ jeI 41 [none, some (.int (x1))] [.int (v7)] h8 _
  exact jv_iret (ty := .int) (jv_dk t_X13_readKind (k := 21) rfl) rfl rfl rfl
def f_X13_readKind_b26 (x0 : Nat) (x1 : Int32) (h : jh) : Option (Int32 × jh) :=
  gI h x0 11 12 fun v5 =>
  (if ¬ v5 = 0 then
  f_X13_readKind_b37 x1 h
  else
  cV h x0 11 (f_X13_stepOn x0 h) fun _ h9 =>
  f_X13_readKind_b37 x1 h9)
theorem o_f_X13_readKind_b26 {X : jx} {b0 : Nat × Nat} (x0 : Nat) (x1 : Int32) (h : jh) : jv_O X M_X13_readKind b0 jeI 26 [some (.ref (x0)), some (.int (x1))] [] h (f_X13_readKind_b26 x0 x1 h) := by
  unfold f_X13_readKind_b26
  refine jv_aload_n (jv_dk t_X13_readKind (k := 14) rfl) rfl rfl (Or.inr ⟨_, rfl⟩) ?_
  refine jv_gI (jv_dk t_X13_readKind (k := 15) rfl) fl_X13_141 (fun v5 => ?_)
  refine jv_if_ne (tgt := 37) (jv_dk t_X13_readKind (k := 16) rfl) rfl (fun c6 => ?_) (fun c6 => ?_)
  · refine jv_le_row (jv_le_n (jv_le_s (jv_le_nil))) ?_
    exact o_f_X13_readKind_b37 _ _ 
  · show jv_O _ _ _ _ 33 _ _ _ _
    refine jv_aload_n (jv_dk t_X13_readKind (k := 17) rfl) rfl rfl (Or.inr ⟨_, rfl⟩) ?_
    refine jv_callV (en' := jeV) (pv := jpV) (As := []) (S := []) (jv_dk t_X13_readKind (k := 18) rfl) (fun _ => rfl) (Or.inl lk_X13_163) me_X13_stepOn mv_X13_stepOn ⟨by decide, by decide⟩ rfl rfl rfl (Nat.le_of_ble_eq_true rfl) (P_X13_stepOn X x0 h) (fun _ h9 => ?_)
    show jv_O X M_X13_readKind _ jeI 37 [some (.ref (x0)), some (.int (x1))] [] h9 _
    refine jv_le_row (jv_le_n (jv_le_s (jv_le_nil))) ?_
    exact o_f_X13_readKind_b37 _ _ 
def f_X13_readKind (a0 : Nat) (h : jh) : Option (Int32 × jh) :=
  cV h a0 11 (f_X13_which a0 h) fun v1 h2 =>
  gI h2 a0 11 12 fun v3 =>
  (if ¬ v3 = 0 then
  f_X13_readKind_b26 a0 v1 h2
  else
  bd (f_X13_isIn v1 1 3 h2) fun v10 h11 =>
  (if ¬ v10 = 0 then
  f_X13_readKind_b26 a0 v1 h11
  else
  cV h11 a0 11 (f_X13_wrong a0 1 h11) fun _ h13 =>
  f_X13_readKind_b26 a0 v1 h13))
theorem P_X13_readKind (X : jx) (a0 : Nat) (h : jh) : jv_P X M_X13_readKind jeI [.ref (a0)] h (f_X13_readKind a0 h) := by
  refine jv_P.of (by decide) rfl (by simp [Value.category]) (Nat.le_of_ble_eq_true rfl) ?_
  show jv_O X M_X13_readKind (h.1, h.2.1) jeI 0 [some (.ref (a0)), none] [] h (f_X13_readKind a0 h)
  unfold f_X13_readKind
  refine jv_aload_n (jv_dk t_X13_readKind (k := 0) rfl) rfl rfl (Or.inr ⟨_, rfl⟩) ?_
  refine jv_callV (en' := jeI) (pv := jpI) (As := []) (S := []) (jv_dk t_X13_readKind (k := 1) rfl) (fun _ => rfl) (Or.inl lk_X13_166) me_X13_which mv_X13_which ⟨by decide, by decide⟩ rfl rfl rfl (Nat.le_of_ble_eq_true rfl) (P_X13_which X a0 h) (fun v1 h2 => ?_)
  show jv_O X M_X13_readKind _ jeI 4 [some (.ref (a0)), none] [.int (v1)] h2 _
  refine jv_istore_n (L' := [some (.ref (a0)), some (.int (v1))]) (jv_dk t_X13_readKind (k := 2) rfl) rfl (Nat.le_of_ble_eq_true rfl) rfl ?_
  refine jv_aload_n (jv_dk t_X13_readKind (k := 3) rfl) rfl rfl (Or.inr ⟨_, rfl⟩) ?_
  refine jv_gI (jv_dk t_X13_readKind (k := 4) rfl) fl_X13_141 (fun v3 => ?_)
  refine jv_if_ne (tgt := 26) (jv_dk t_X13_readKind (k := 5) rfl) rfl (fun c4 => ?_) (fun c4 => ?_)
  · exact o_f_X13_readKind_b26 _ _ _ 
  · show jv_O _ _ _ _ 12 _ _ _ _
    refine jv_iload_n (jv_dk t_X13_readKind (k := 6) rfl) rfl rfl ?_
    refine jv_iconst (v := 1) (jv_dk t_X13_readKind (k := 7) rfl) (by decide) ?_
    refine jv_iconst (v := 3) (jv_dk t_X13_readKind (k := 8) rfl) (by decide) ?_
    refine jv_callS (en' := jeI) (pv := jpI) (As := [.int (v1), .int (1), .int (3)]) (S := []) (jv_dk t_X13_readKind (k := 9) rfl) (fun _ => rfl) (Or.inl lk_X13_169) me_X13_isIn ms_X13_isIn ⟨by decide, by decide⟩ rfl rfl (Nat.le_of_ble_eq_true rfl) (P_X13_isIn X v1 1 3 h2) (fun v10 h11 => ?_)
    show jv_O X M_X13_readKind _ jeI 18 [some (.ref (a0)), some (.int (v1))] [.int (v10)] h11 _
    refine jv_if_ne (tgt := 26) (jv_dk t_X13_readKind (k := 10) rfl) rfl (fun c12 => ?_) (fun c12 => ?_)
    · exact o_f_X13_readKind_b26 _ _ _ 
    · show jv_O _ _ _ _ 21 _ _ _ _
      refine jv_aload_n (jv_dk t_X13_readKind (k := 11) rfl) rfl rfl (Or.inr ⟨_, rfl⟩) ?_
      refine jv_iconst (v := 1) (jv_dk t_X13_readKind (k := 12) rfl) (by decide) ?_
      refine jv_callV (en' := jeV) (pv := jpV) (As := [.int (1)]) (S := []) (jv_dk t_X13_readKind (k := 13) rfl) (fun _ => rfl) (Or.inl lk_X13_159) me_X13_wrong mv_X13_wrong ⟨by decide, by decide⟩ rfl rfl rfl (Nat.le_of_ble_eq_true rfl) (P_X13_wrong X a0 1 h11) (fun _ h13 => ?_)
      show jv_O X M_X13_readKind _ jeI 26 [some (.ref (a0)), some (.int (v1))] [] h13 _
      exact o_f_X13_readKind_b26 _ _ _ 
def t0_X13_readClause : List (Nat × Instr × Nat) := [(0, .aload_n 0, 1), (1, .invokevirtual 166, 3), (4, .istore_n 1, 1), (5, .aload_n 0, 1), (6, .getfield 141, 3), (9, .ifCond .ne 13, 3), (12, .iload_n 1, 1), (13, .iconst (-1), 1), (14, .if_icmp .ne 8, 3), (17, .aload_n 0, 1), (18, .iconst 1, 1), (19, .invokevirtual 159, 3), (22, .aload_n 0, 1), (23, .getfield 141, 3), (26, .ifCond .ne 17, 3), (29, .aload_n 0, 1), (30, .getfield 176, 3), (33, .bipush 60, 2), (35, .if_icmp .ne 8, 3), (38, .aload_n 0, 1), (39, .iconst 2, 1), (40, .invokevirtual 159, 3), (43, .aload_n 0, 1), (44, .getfield 141, 3), (47, .ifCond .eq 4, 3), (50, .return_, 1), (51, .aload_n 0, 1), (52, .invokevirtual 163, 3), (55, .bipush 6, 2), (57, .aload_n 0, 1), (58, .getfield 176, 3), (61, .imul, 1), (62, .istore_n 2, 1), (63, .aload_n 0, 1), (64, .getfield 51, 3), (67, .iload_n 2, 1), (68, .iload_n 1, 1), (69, .iastore, 1), (70, .aload_n 0, 1), (71, .getfield 51, 3), (74, .iload_n 2, 1), (75, .iconst 1, 1), (76, .iadd, 1), (77, .aload_n 0, 1), (78, .bipush 15, 2), (80, .invokevirtual 179, 3), (83, .iastore, 1), (84, .aload_n 0, 1), (85, .getfield 51, 3), (88, .iload_n 2, 1), (89, .iconst 2, 1), (90, .iadd, 1), (91, .iload_n 1, 1), (92, .iconst 4, 1), (93, .if_icmp .eq 9, 3), (96, .iload_n 1, 1), (97, .bipush 6, 2), (99, .if_icmp .ne 12, 3), (102, .aload_n 0, 1), (103, .bipush 7, 2), (105, .invokevirtual 179, 3), (108, .goto 39, 3), (111, .iload_n 1, 1), (112, .bipush 7, 2), (114, .if_icmp .eq 9, 3), (117, .iload_n 1, 1), (118, .bipush 9, 2), (120, .if_icmp .ne 12, 3), (123, .aload_n 0, 1), (124, .bipush 15, 2), (126, .invokevirtual 179, 3), (129, .goto 18, 3), (132, .iload_n 1, 1), (133, .iconst 5, 1), (134, .if_icmp .ne 12, 3), (137, .aload_n 0, 1), (138, .bipush 99, 2), (140, .invokevirtual 179, 3), (143, .goto 4, 3), (146, .iconst 0, 1), (147, .iastore, 1), (148, .aload_n 0, 1), (149, .getfield 51, 3), (152, .iload_n 2, 1), (153, .iconst 3, 1), (154, .iadd, 1), (155, .iload_n 1, 1), (156, .bipush 7, 2), (158, .if_icmp .ne 10, 3), (161, .aload_n 0, 1), (162, .invokevirtual 182, 3), (165, .goto 24, 3), (168, .iload_n 1, 1), (169, .iconst 4, 1), (170, .if_icmp .eq 9, 3), (173, .iload_n 1, 1), (174, .bipush 6, 2), (176, .if_icmp .ne 12, 3), (179, .aload_n 0, 1), (180, .bipush 99, 2), (182, .invokevirtual 179, 3), (185, .goto 4, 3), (188, .iconst 0, 1), (189, .iastore, 1), (190, .aload_n 0, 1), (191, .getfield 51, 3), (194, .iload_n 2, 1), (195, .iconst 4, 1), (196, .iadd, 1), (197, .iload_n 1, 1), (198, .iconst 4, 1), (199, .if_icmp .ne 12, 3), (202, .aload_n 0, 1), (203, .bipush 99, 2), (205, .invokevirtual 179, 3), (208, .goto 4, 3), (211, .iconst 0, 1), (212, .iastore, 1), (213, .aload_n 0, 1), (214, .getfield 51, 3), (217, .iload_n 2, 1), (218, .iconst 5, 1), (219, .iadd, 1), (220, .iload_n 1, 1), (221, .iconst 4, 1), (222, .if_icmp .ne 12, 3), (225, .aload_n 0, 1), (226, .bipush 99, 2), (228, .invokevirtual 179, 3), (231, .goto 4, 3), (234, .iconst 0, 1), (235, .iastore, 1), (236, .aload_n 0, 1), (237, .getfield 141, 3), (240, .ifCond .ne 16, 3), (243, .aload_n 0, 1), (244, .getfield 119, 3), (247, .iconst 3, 1), (248, .if_icmp .eq 8, 3), (251, .aload_n 0, 1), (252, .iconst 1, 1), (253, .invokevirtual 159, 3), (256, .aload_n 0, 1), (257, .getfield 141, 3), (260, .ifCond .ne 7, 3), (263, .aload_n 0, 1), (264, .invokevirtual 163, 3), (267, .aload_n 0, 1), (268, .dup, 1), (269, .getfield 176, 3), (272, .iconst 1, 1), (273, .iadd, 1), (274, .putfield 176, 3), (277, .return_, 1)]
theorem t_X13_readClause : jv_dec cX13_readClause t0_X13_readClause = true := by decide +kernel
def M_X13_readClause : jm := (yX13_readClause, cX13_readClause, 3, none, 8, 246, [])
theorem fl_X13_176 : jv_F RX13 176 11 16 RX13 TX13 36 := ⟨rfl, by decide, inX13, Or.inl (jv_at 1388 (by decide +kernel))⟩
theorem lk_X13_179 : Cond.methodLink RX13 179 M_X13_readNumber.1 ∈ lw_tbl := (jv_at 1532 (by decide +kernel))
set_option maxRecDepth 20000 in
theorem me_X13_readNumber : jv_me M_X13_readNumber 1 := ⟨(jv_in6 (List.mem_of_getElem? (i := 175) rfl)), (jv_at 172 (by decide +kernel)), ⟨by decide, by decide⟩, by decide +kernel⟩
theorem mv_X13_readNumber : jv_mv M_X13_readNumber := ⟨(jv_at 1534 (by decide +kernel)), (jv_at 104 (by decide +kernel))⟩
theorem lk_X13_182 : Cond.methodLink RX13 182 M_X13_readKind.1 ∈ lw_tbl := (jv_at 1536 (by decide +kernel))
set_option maxRecDepth 20000 in
theorem me_X13_readKind : jv_me M_X13_readKind 0 := ⟨(jv_in6 (List.mem_of_getElem? (i := 179) rfl)), (jv_at 172 (by decide +kernel)), ⟨by decide, by decide⟩, by decide +kernel⟩
theorem mv_X13_readKind : jv_mv M_X13_readKind := ⟨(jv_at 1538 (by decide +kernel)), (jv_at 105 (by decide +kernel))⟩
def f_X13_readClause_b267 (x0 : Nat) (h : jh) : Option (Unit × jh) :=
  gI h x0 11 16 fun v38 =>
  pV h x0 11 16 (.int (v38 + 1)) fun h39 =>
  some ((), h39)
theorem o_f_X13_readClause_b267 {X : jx} {b0 : Nat × Nat} (x0 : Nat) (h : jh) : jv_O X M_X13_readClause b0 jeV 267 [some (.ref (x0)), none, none] [] h (f_X13_readClause_b267 x0 h) := by
  unfold f_X13_readClause_b267
  refine jv_aload_n (jv_dk t_X13_readClause (k := 147) rfl) rfl rfl (Or.inr ⟨_, rfl⟩) ?_
  refine jv_dup (jv_dk t_X13_readClause (k := 148) rfl) rfl ?_
  refine jv_gI (jv_dk t_X13_readClause (k := 149) rfl) fl_X13_176 (fun v38 => ?_)
  refine jv_iconst (v := 1) (jv_dk t_X13_readClause (k := 150) rfl) (by decide) ?_
  refine jv_iadd (jv_dk t_X13_readClause (k := 151) rfl) ?_
  refine jv_pV (jv_dk t_X13_readClause (k := 152) rfl) fl_X13_176 kX13 (Or.inl rfl) rfl rfl rfl (fun h39 => ?_)
  exact jv_vret (jv_dk t_X13_readClause (k := 153) rfl) rfl rfl
def f_X13_readClause_b256 (x0 : Nat) (h : jh) : Option (Unit × jh) :=
  gI h x0 11 12 fun v36 =>
  (if ¬ v36 = 0 then
  f_X13_readClause_b267 x0 h
  else
  cV h x0 11 (f_X13_stepOn x0 h) fun _ h40 =>
  f_X13_readClause_b267 x0 h40)
theorem o_f_X13_readClause_b256 {X : jx} {b0 : Nat × Nat} (x0 : Nat) (h : jh) : jv_O X M_X13_readClause b0 jeV 256 [some (.ref (x0)), none, none] [] h (f_X13_readClause_b256 x0 h) := by
  unfold f_X13_readClause_b256
  refine jv_aload_n (jv_dk t_X13_readClause (k := 142) rfl) rfl rfl (Or.inr ⟨_, rfl⟩) ?_
  refine jv_gI (jv_dk t_X13_readClause (k := 143) rfl) fl_X13_141 (fun v36 => ?_)
  refine jv_if_ne (tgt := 267) (jv_dk t_X13_readClause (k := 144) rfl) rfl (fun c37 => ?_) (fun c37 => ?_)
  · exact o_f_X13_readClause_b267 _ _ 
  · show jv_O _ _ _ _ 263 _ _ _ _
    refine jv_aload_n (jv_dk t_X13_readClause (k := 145) rfl) rfl rfl (Or.inr ⟨_, rfl⟩) ?_
    refine jv_callV (en' := jeV) (pv := jpV) (As := []) (S := []) (jv_dk t_X13_readClause (k := 146) rfl) (fun _ => rfl) (Or.inl lk_X13_163) me_X13_stepOn mv_X13_stepOn ⟨by decide, by decide⟩ rfl rfl rfl (Nat.le_of_ble_eq_true rfl) (P_X13_stepOn X x0 h) (fun _ h40 => ?_)
    show jv_O X M_X13_readClause _ jeV 267 [some (.ref (x0)), none, none] [] h40 _
    exact o_f_X13_readClause_b267 _ _ 
def f_X13_readClause_b235 (x0 : Nat) (s0 : Int32) (s1 : Int32) (s2 : Nat) (h : jh) : Option (Unit × jh) :=
  sI h s2 s1 s0 fun h33 =>
  gI h33 x0 11 12 fun v34 =>
  (if ¬ v34 = 0 then
  f_X13_readClause_b256 x0 h33
  else
  gI h33 x0 11 8 fun v41 =>
  (if v41 = 3 then
  f_X13_readClause_b256 x0 h33
  else
  cV h33 x0 11 (f_X13_wrong x0 1 h33) fun _ h43 =>
  f_X13_readClause_b256 x0 h43))
theorem o_f_X13_readClause_b235 {X : jx} {b0 : Nat × Nat} (x0 : Nat) (s0 : Int32) (s1 : Int32) (s2 : Nat) (h : jh) : jv_O X M_X13_readClause b0 jeV 235 [some (.ref (x0)), none, none] [.int (s0), .int (s1), .ref (s2)] h (f_X13_readClause_b235 x0 s0 s1 s2 h) := by
  unfold f_X13_readClause_b235
  refine jv_iastore (jv_dk t_X13_readClause (k := 131) rfl) (fun h33 => ?_)
  refine jv_aload_n (jv_dk t_X13_readClause (k := 132) rfl) rfl rfl (Or.inr ⟨_, rfl⟩) ?_
  refine jv_gI (jv_dk t_X13_readClause (k := 133) rfl) fl_X13_141 (fun v34 => ?_)
  refine jv_if_ne (tgt := 256) (jv_dk t_X13_readClause (k := 134) rfl) rfl (fun c35 => ?_) (fun c35 => ?_)
  · exact o_f_X13_readClause_b256 _ _ 
  · show jv_O _ _ _ _ 243 _ _ _ _
    refine jv_aload_n (jv_dk t_X13_readClause (k := 135) rfl) rfl rfl (Or.inr ⟨_, rfl⟩) ?_
    refine jv_gI (jv_dk t_X13_readClause (k := 136) rfl) fl_X13_119 (fun v41 => ?_)
    refine jv_iconst (v := 3) (jv_dk t_X13_readClause (k := 137) rfl) (by decide) ?_
    refine jv_icmp_eq (tgt := 256) (jv_dk t_X13_readClause (k := 138) rfl) rfl (fun c42 => ?_) (fun c42 => ?_)
    · exact o_f_X13_readClause_b256 _ _ 
    · show jv_O _ _ _ _ 251 _ _ _ _
      refine jv_aload_n (jv_dk t_X13_readClause (k := 139) rfl) rfl rfl (Or.inr ⟨_, rfl⟩) ?_
      refine jv_iconst (v := 1) (jv_dk t_X13_readClause (k := 140) rfl) (by decide) ?_
      refine jv_callV (en' := jeV) (pv := jpV) (As := [.int (1)]) (S := []) (jv_dk t_X13_readClause (k := 141) rfl) (fun _ => rfl) (Or.inl lk_X13_159) me_X13_wrong mv_X13_wrong ⟨by decide, by decide⟩ rfl rfl rfl (Nat.le_of_ble_eq_true rfl) (P_X13_wrong X x0 1 h33) (fun _ h43 => ?_)
      show jv_O X M_X13_readClause _ jeV 256 [some (.ref (x0)), none, none] [] h43 _
      exact o_f_X13_readClause_b256 _ _ 
def f_X13_readClause_b212 (x0 : Nat) (x1 : Int32) (x2 : Int32) (s0 : Int32) (s1 : Int32) (s2 : Nat) (h : jh) : Option (Unit × jh) :=
  sI h s2 s1 s0 fun h30 =>
  gR h30 x0 11 15 fun v31 =>
  (if ¬ x1 = 4 then
  f_X13_readClause_b235 x0 0 (x2 + 5) v31 h30
  else
  cV h30 x0 11 (f_X13_readNumber x0 99 h30) fun v44 h45 =>
  f_X13_readClause_b235 x0 v44 (x2 + 5) v31 h45)
theorem o_f_X13_readClause_b212 {X : jx} {b0 : Nat × Nat} (x0 : Nat) (x1 : Int32) (x2 : Int32) (s0 : Int32) (s1 : Int32) (s2 : Nat) (h : jh) : jv_O X M_X13_readClause b0 jeV 212 [some (.ref (x0)), some (.int (x1)), some (.int (x2))] [.int (s0), .int (s1), .ref (s2)] h (f_X13_readClause_b212 x0 x1 x2 s0 s1 s2 h) := by
  unfold f_X13_readClause_b212
  refine jv_iastore (jv_dk t_X13_readClause (k := 117) rfl) (fun h30 => ?_)
  refine jv_aload_n (jv_dk t_X13_readClause (k := 118) rfl) rfl rfl (Or.inr ⟨_, rfl⟩) ?_
  refine jv_gR (jv_dk t_X13_readClause (k := 119) rfl) fl_X13_51 (fun v31 => ?_)
  refine jv_iload_n (jv_dk t_X13_readClause (k := 120) rfl) rfl rfl ?_
  refine jv_iconst (v := 5) (jv_dk t_X13_readClause (k := 121) rfl) (by decide) ?_
  refine jv_iadd (jv_dk t_X13_readClause (k := 122) rfl) ?_
  refine jv_iload_n (jv_dk t_X13_readClause (k := 123) rfl) rfl rfl ?_
  refine jv_iconst (v := 4) (jv_dk t_X13_readClause (k := 124) rfl) (by decide) ?_
  refine jv_icmp_ne (tgt := 234) (jv_dk t_X13_readClause (k := 125) rfl) rfl (fun c32 => ?_) (fun c32 => ?_)
  · refine jv_iconst (v := 0) (jv_dk t_X13_readClause (k := 130) rfl) (by decide) ?_
    refine jv_le_row (jv_le_s (jv_le_n (jv_le_n (jv_le_nil)))) ?_
    exact o_f_X13_readClause_b235 _ _ _ _ _ 
  · show jv_O _ _ _ _ 225 _ _ _ _
    refine jv_aload_n (jv_dk t_X13_readClause (k := 126) rfl) rfl rfl (Or.inr ⟨_, rfl⟩) ?_
    refine jv_bipush (v := 99) (jv_dk t_X13_readClause (k := 127) rfl) (by decide) ?_
    refine jv_callV (en' := jeI) (pv := jpI) (As := [.int (99)]) (S := [.int (x2 + 5), .ref (v31)]) (jv_dk t_X13_readClause (k := 128) rfl) (fun _ => rfl) (Or.inl lk_X13_179) me_X13_readNumber mv_X13_readNumber ⟨by decide, by decide⟩ rfl rfl rfl (Nat.le_of_ble_eq_true rfl) (P_X13_readNumber X x0 99 h30) (fun v44 h45 => ?_)
    show jv_O X M_X13_readClause _ jeV 231 [some (.ref (x0)), some (.int (x1)), some (.int (x2))] [.int (v44), .int (x2 + 5), .ref (v31)] h45 _
    refine jv_goto (tgt := 235) (jv_dk t_X13_readClause (k := 129) rfl) rfl ?_
    refine jv_le_row (jv_le_s (jv_le_n (jv_le_n (jv_le_nil)))) ?_
    exact o_f_X13_readClause_b235 _ _ _ _ _ 
def f_X13_readClause_b189 (x0 : Nat) (x1 : Int32) (x2 : Int32) (s0 : Int32) (s1 : Int32) (s2 : Nat) (h : jh) : Option (Unit × jh) :=
  sI h s2 s1 s0 fun h27 =>
  gR h27 x0 11 15 fun v28 =>
  (if ¬ x1 = 4 then
  f_X13_readClause_b212 x0 x1 x2 0 (x2 + 4) v28 h27
  else
  cV h27 x0 11 (f_X13_readNumber x0 99 h27) fun v46 h47 =>
  f_X13_readClause_b212 x0 x1 x2 v46 (x2 + 4) v28 h47)
theorem o_f_X13_readClause_b189 {X : jx} {b0 : Nat × Nat} (x0 : Nat) (x1 : Int32) (x2 : Int32) (s0 : Int32) (s1 : Int32) (s2 : Nat) (h : jh) : jv_O X M_X13_readClause b0 jeV 189 [some (.ref (x0)), some (.int (x1)), some (.int (x2))] [.int (s0), .int (s1), .ref (s2)] h (f_X13_readClause_b189 x0 x1 x2 s0 s1 s2 h) := by
  unfold f_X13_readClause_b189
  refine jv_iastore (jv_dk t_X13_readClause (k := 103) rfl) (fun h27 => ?_)
  refine jv_aload_n (jv_dk t_X13_readClause (k := 104) rfl) rfl rfl (Or.inr ⟨_, rfl⟩) ?_
  refine jv_gR (jv_dk t_X13_readClause (k := 105) rfl) fl_X13_51 (fun v28 => ?_)
  refine jv_iload_n (jv_dk t_X13_readClause (k := 106) rfl) rfl rfl ?_
  refine jv_iconst (v := 4) (jv_dk t_X13_readClause (k := 107) rfl) (by decide) ?_
  refine jv_iadd (jv_dk t_X13_readClause (k := 108) rfl) ?_
  refine jv_iload_n (jv_dk t_X13_readClause (k := 109) rfl) rfl rfl ?_
  refine jv_iconst (v := 4) (jv_dk t_X13_readClause (k := 110) rfl) (by decide) ?_
  refine jv_icmp_ne (tgt := 211) (jv_dk t_X13_readClause (k := 111) rfl) rfl (fun c29 => ?_) (fun c29 => ?_)
  · refine jv_iconst (v := 0) (jv_dk t_X13_readClause (k := 116) rfl) (by decide) ?_
    exact o_f_X13_readClause_b212 _ _ _ _ _ _ _ 
  · show jv_O _ _ _ _ 202 _ _ _ _
    refine jv_aload_n (jv_dk t_X13_readClause (k := 112) rfl) rfl rfl (Or.inr ⟨_, rfl⟩) ?_
    refine jv_bipush (v := 99) (jv_dk t_X13_readClause (k := 113) rfl) (by decide) ?_
    refine jv_callV (en' := jeI) (pv := jpI) (As := [.int (99)]) (S := [.int (x2 + 4), .ref (v28)]) (jv_dk t_X13_readClause (k := 114) rfl) (fun _ => rfl) (Or.inl lk_X13_179) me_X13_readNumber mv_X13_readNumber ⟨by decide, by decide⟩ rfl rfl rfl (Nat.le_of_ble_eq_true rfl) (P_X13_readNumber X x0 99 h27) (fun v46 h47 => ?_)
    show jv_O X M_X13_readClause _ jeV 208 [some (.ref (x0)), some (.int (x1)), some (.int (x2))] [.int (v46), .int (x2 + 4), .ref (v28)] h47 _
    refine jv_goto (tgt := 212) (jv_dk t_X13_readClause (k := 115) rfl) rfl ?_
    exact o_f_X13_readClause_b212 _ _ _ _ _ _ _ 
def f_X13_readClause_b179 (x0 : Nat) (x1 : Int32) (x2 : Int32) (s0 : Int32) (s1 : Nat) (h : jh) : Option (Unit × jh) :=
  cV h x0 11 (f_X13_readNumber x0 99 h) fun v25 h26 =>
  f_X13_readClause_b189 x0 x1 x2 v25 s0 s1 h26
theorem o_f_X13_readClause_b179 {X : jx} {b0 : Nat × Nat} (x0 : Nat) (x1 : Int32) (x2 : Int32) (s0 : Int32) (s1 : Nat) (h : jh) : jv_O X M_X13_readClause b0 jeV 179 [some (.ref (x0)), some (.int (x1)), some (.int (x2))] [.int (s0), .ref (s1)] h (f_X13_readClause_b179 x0 x1 x2 s0 s1 h) := by
  unfold f_X13_readClause_b179
  refine jv_aload_n (jv_dk t_X13_readClause (k := 98) rfl) rfl rfl (Or.inr ⟨_, rfl⟩) ?_
  refine jv_bipush (v := 99) (jv_dk t_X13_readClause (k := 99) rfl) (by decide) ?_
  refine jv_callV (en' := jeI) (pv := jpI) (As := [.int (99)]) (S := [.int (s0), .ref (s1)]) (jv_dk t_X13_readClause (k := 100) rfl) (fun _ => rfl) (Or.inl lk_X13_179) me_X13_readNumber mv_X13_readNumber ⟨by decide, by decide⟩ rfl rfl rfl (Nat.le_of_ble_eq_true rfl) (P_X13_readNumber X x0 99 h) (fun v25 h26 => ?_)
  show jv_O X M_X13_readClause _ jeV 185 [some (.ref (x0)), some (.int (x1)), some (.int (x2))] [.int (v25), .int (s0), .ref (s1)] h26 _
  refine jv_goto (tgt := 189) (jv_dk t_X13_readClause (k := 101) rfl) rfl ?_
  exact o_f_X13_readClause_b189 _ _ _ _ _ _ _ 
def f_X13_readClause_b147 (x0 : Nat) (x1 : Int32) (x2 : Int32) (s0 : Int32) (s1 : Int32) (s2 : Nat) (h : jh) : Option (Unit × jh) :=
  sI h s2 s1 s0 fun h21 =>
  gR h21 x0 11 15 fun v22 =>
  (if ¬ x1 = 7 then
  (if x1 = 4 then
  f_X13_readClause_b179 x0 x1 x2 (x2 + 3) v22 h21
  else
  (if ¬ x1 = 6 then
  f_X13_readClause_b189 x0 x1 x2 0 (x2 + 3) v22 h21
  else
  f_X13_readClause_b179 x0 x1 x2 (x2 + 3) v22 h21))
  else
  cV h21 x0 11 (f_X13_readKind x0 h21) fun v49 h50 =>
  f_X13_readClause_b189 x0 x1 x2 v49 (x2 + 3) v22 h50)
theorem o_f_X13_readClause_b147 {X : jx} {b0 : Nat × Nat} (x0 : Nat) (x1 : Int32) (x2 : Int32) (s0 : Int32) (s1 : Int32) (s2 : Nat) (h : jh) : jv_O X M_X13_readClause b0 jeV 147 [some (.ref (x0)), some (.int (x1)), some (.int (x2))] [.int (s0), .int (s1), .ref (s2)] h (f_X13_readClause_b147 x0 x1 x2 s0 s1 s2 h) := by
  unfold f_X13_readClause_b147
  refine jv_iastore (jv_dk t_X13_readClause (k := 80) rfl) (fun h21 => ?_)
  refine jv_aload_n (jv_dk t_X13_readClause (k := 81) rfl) rfl rfl (Or.inr ⟨_, rfl⟩) ?_
  refine jv_gR (jv_dk t_X13_readClause (k := 82) rfl) fl_X13_51 (fun v22 => ?_)
  refine jv_iload_n (jv_dk t_X13_readClause (k := 83) rfl) rfl rfl ?_
  refine jv_iconst (v := 3) (jv_dk t_X13_readClause (k := 84) rfl) (by decide) ?_
  refine jv_iadd (jv_dk t_X13_readClause (k := 85) rfl) ?_
  refine jv_iload_n (jv_dk t_X13_readClause (k := 86) rfl) rfl rfl ?_
  refine jv_bipush (v := 7) (jv_dk t_X13_readClause (k := 87) rfl) (by decide) ?_
  refine jv_icmp_ne (tgt := 168) (jv_dk t_X13_readClause (k := 88) rfl) rfl (fun c23 => ?_) (fun c23 => ?_)
  · refine jv_iload_n (jv_dk t_X13_readClause (k := 92) rfl) rfl rfl ?_
    refine jv_iconst (v := 4) (jv_dk t_X13_readClause (k := 93) rfl) (by decide) ?_
    refine jv_icmp_eq (tgt := 179) (jv_dk t_X13_readClause (k := 94) rfl) rfl (fun c24 => ?_) (fun c24 => ?_)
    · exact o_f_X13_readClause_b179 _ _ _ _ _ _ 
    · show jv_O _ _ _ _ 173 _ _ _ _
      refine jv_iload_n (jv_dk t_X13_readClause (k := 95) rfl) rfl rfl ?_
      refine jv_bipush (v := 6) (jv_dk t_X13_readClause (k := 96) rfl) (by decide) ?_
      refine jv_icmp_ne (tgt := 188) (jv_dk t_X13_readClause (k := 97) rfl) rfl (fun c48 => ?_) (fun c48 => ?_)
      · refine jv_iconst (v := 0) (jv_dk t_X13_readClause (k := 102) rfl) (by decide) ?_
        exact o_f_X13_readClause_b189 _ _ _ _ _ _ _ 
      · show jv_O _ _ _ _ 179 _ _ _ _
        exact o_f_X13_readClause_b179 _ _ _ _ _ _ 
  · show jv_O _ _ _ _ 161 _ _ _ _
    refine jv_aload_n (jv_dk t_X13_readClause (k := 89) rfl) rfl rfl (Or.inr ⟨_, rfl⟩) ?_
    refine jv_callV (en' := jeI) (pv := jpI) (As := []) (S := [.int (x2 + 3), .ref (v22)]) (jv_dk t_X13_readClause (k := 90) rfl) (fun _ => rfl) (Or.inl lk_X13_182) me_X13_readKind mv_X13_readKind ⟨by decide, by decide⟩ rfl rfl rfl (Nat.le_of_ble_eq_true rfl) (P_X13_readKind X x0 h21) (fun v49 h50 => ?_)
    show jv_O X M_X13_readClause _ jeV 165 [some (.ref (x0)), some (.int (x1)), some (.int (x2))] [.int (v49), .int (x2 + 3), .ref (v22)] h50 _
    refine jv_goto (tgt := 189) (jv_dk t_X13_readClause (k := 91) rfl) rfl ?_
    exact o_f_X13_readClause_b189 _ _ _ _ _ _ _ 
def f_X13_readClause_b102 (x0 : Nat) (x1 : Int32) (x2 : Int32) (s0 : Int32) (s1 : Nat) (h : jh) : Option (Unit × jh) :=
  cV h x0 11 (f_X13_readNumber x0 7 h) fun v19 h20 =>
  f_X13_readClause_b147 x0 x1 x2 v19 s0 s1 h20
theorem o_f_X13_readClause_b102 {X : jx} {b0 : Nat × Nat} (x0 : Nat) (x1 : Int32) (x2 : Int32) (s0 : Int32) (s1 : Nat) (h : jh) : jv_O X M_X13_readClause b0 jeV 102 [some (.ref (x0)), some (.int (x1)), some (.int (x2))] [.int (s0), .ref (s1)] h (f_X13_readClause_b102 x0 x1 x2 s0 s1 h) := by
  unfold f_X13_readClause_b102
  refine jv_aload_n (jv_dk t_X13_readClause (k := 58) rfl) rfl rfl (Or.inr ⟨_, rfl⟩) ?_
  refine jv_bipush (v := 7) (jv_dk t_X13_readClause (k := 59) rfl) (by decide) ?_
  refine jv_callV (en' := jeI) (pv := jpI) (As := [.int (7)]) (S := [.int (s0), .ref (s1)]) (jv_dk t_X13_readClause (k := 60) rfl) (fun _ => rfl) (Or.inl lk_X13_179) me_X13_readNumber mv_X13_readNumber ⟨by decide, by decide⟩ rfl rfl rfl (Nat.le_of_ble_eq_true rfl) (P_X13_readNumber X x0 7 h) (fun v19 h20 => ?_)
  show jv_O X M_X13_readClause _ jeV 108 [some (.ref (x0)), some (.int (x1)), some (.int (x2))] [.int (v19), .int (s0), .ref (s1)] h20 _
  refine jv_goto (tgt := 147) (jv_dk t_X13_readClause (k := 61) rfl) rfl ?_
  exact o_f_X13_readClause_b147 _ _ _ _ _ _ _ 
def f_X13_readClause_b123 (x0 : Nat) (x1 : Int32) (x2 : Int32) (s0 : Int32) (s1 : Nat) (h : jh) : Option (Unit × jh) :=
  cV h x0 11 (f_X13_readNumber x0 15 h) fun v53 h54 =>
  f_X13_readClause_b147 x0 x1 x2 v53 s0 s1 h54
theorem o_f_X13_readClause_b123 {X : jx} {b0 : Nat × Nat} (x0 : Nat) (x1 : Int32) (x2 : Int32) (s0 : Int32) (s1 : Nat) (h : jh) : jv_O X M_X13_readClause b0 jeV 123 [some (.ref (x0)), some (.int (x1)), some (.int (x2))] [.int (s0), .ref (s1)] h (f_X13_readClause_b123 x0 x1 x2 s0 s1 h) := by
  unfold f_X13_readClause_b123
  refine jv_aload_n (jv_dk t_X13_readClause (k := 68) rfl) rfl rfl (Or.inr ⟨_, rfl⟩) ?_
  refine jv_bipush (v := 15) (jv_dk t_X13_readClause (k := 69) rfl) (by decide) ?_
  refine jv_callV (en' := jeI) (pv := jpI) (As := [.int (15)]) (S := [.int (s0), .ref (s1)]) (jv_dk t_X13_readClause (k := 70) rfl) (fun _ => rfl) (Or.inl lk_X13_179) me_X13_readNumber mv_X13_readNumber ⟨by decide, by decide⟩ rfl rfl rfl (Nat.le_of_ble_eq_true rfl) (P_X13_readNumber X x0 15 h) (fun v53 h54 => ?_)
  show jv_O X M_X13_readClause _ jeV 129 [some (.ref (x0)), some (.int (x1)), some (.int (x2))] [.int (v53), .int (s0), .ref (s1)] h54 _
  refine jv_goto (tgt := 147) (jv_dk t_X13_readClause (k := 71) rfl) rfl ?_
  exact o_f_X13_readClause_b147 _ _ _ _ _ _ _ 
def f_X13_readClause_b43 (x0 : Nat) (x1 : Int32) (h : jh) : Option (Unit × jh) :=
  gI h x0 11 12 fun v7 =>
  (if v7 = 0 then
  cV h x0 11 (f_X13_stepOn x0 h) fun _ h9 =>
  gI h9 x0 11 16 fun v10 =>
  gR h9 x0 11 15 fun v11 =>
  sI h9 v11 (6 * v10) x1 fun h12 =>
  gR h12 x0 11 15 fun v13 =>
  cV h12 x0 11 (f_X13_readNumber x0 15 h12) fun v14 h15 =>
  sI h15 v13 ((6 * v10) + 1) v14 fun h16 =>
  gR h16 x0 11 15 fun v17 =>
  (if x1 = 4 then
  f_X13_readClause_b102 x0 x1 (6 * v10) ((6 * v10) + 2) v17 h16
  else
  (if ¬ x1 = 6 then
  (if x1 = 7 then
  f_X13_readClause_b123 x0 x1 (6 * v10) ((6 * v10) + 2) v17 h16
  else
  (if ¬ x1 = 9 then
  (if ¬ x1 = 5 then
  f_X13_readClause_b147 x0 x1 (6 * v10) 0 ((6 * v10) + 2) v17 h16
  else
  cV h16 x0 11 (f_X13_readNumber x0 99 h16) fun v57 h58 =>
  f_X13_readClause_b147 x0 x1 (6 * v10) v57 ((6 * v10) + 2) v17 h58)
  else
  f_X13_readClause_b123 x0 x1 (6 * v10) ((6 * v10) + 2) v17 h16))
  else
  f_X13_readClause_b102 x0 x1 (6 * v10) ((6 * v10) + 2) v17 h16))
  else
  some ((), h))
theorem o_f_X13_readClause_b43 {X : jx} {b0 : Nat × Nat} (x0 : Nat) (x1 : Int32) (h : jh) : jv_O X M_X13_readClause b0 jeV 43 [some (.ref (x0)), some (.int (x1)), none] [] h (f_X13_readClause_b43 x0 x1 h) := by
  unfold f_X13_readClause_b43
  refine jv_aload_n (jv_dk t_X13_readClause (k := 22) rfl) rfl rfl (Or.inr ⟨_, rfl⟩) ?_
  refine jv_gI (jv_dk t_X13_readClause (k := 23) rfl) fl_X13_141 (fun v7 => ?_)
  refine jv_if_eq (tgt := 51) (jv_dk t_X13_readClause (k := 24) rfl) rfl (fun c8 => ?_) (fun c8 => ?_)
  · refine jv_aload_n (jv_dk t_X13_readClause (k := 26) rfl) rfl rfl (Or.inr ⟨_, rfl⟩) ?_
    refine jv_callV (en' := jeV) (pv := jpV) (As := []) (S := []) (jv_dk t_X13_readClause (k := 27) rfl) (fun _ => rfl) (Or.inl lk_X13_163) me_X13_stepOn mv_X13_stepOn ⟨by decide, by decide⟩ rfl rfl rfl (Nat.le_of_ble_eq_true rfl) (P_X13_stepOn X x0 h) (fun _ h9 => ?_)
    show jv_O X M_X13_readClause _ jeV 55 [some (.ref (x0)), some (.int (x1)), none] [] h9 _
    refine jv_bipush (v := 6) (jv_dk t_X13_readClause (k := 28) rfl) (by decide) ?_
    refine jv_aload_n (jv_dk t_X13_readClause (k := 29) rfl) rfl rfl (Or.inr ⟨_, rfl⟩) ?_
    refine jv_gI (jv_dk t_X13_readClause (k := 30) rfl) fl_X13_176 (fun v10 => ?_)
    refine jv_imul (jv_dk t_X13_readClause (k := 31) rfl) ?_
    refine jv_istore_n (L' := [some (.ref (x0)), some (.int (x1)), some (.int (6 * v10))]) (jv_dk t_X13_readClause (k := 32) rfl) rfl (Nat.le_of_ble_eq_true rfl) rfl ?_
    refine jv_aload_n (jv_dk t_X13_readClause (k := 33) rfl) rfl rfl (Or.inr ⟨_, rfl⟩) ?_
    refine jv_gR (jv_dk t_X13_readClause (k := 34) rfl) fl_X13_51 (fun v11 => ?_)
    refine jv_iload_n (jv_dk t_X13_readClause (k := 35) rfl) rfl rfl ?_
    refine jv_iload_n (jv_dk t_X13_readClause (k := 36) rfl) rfl rfl ?_
    refine jv_iastore (jv_dk t_X13_readClause (k := 37) rfl) (fun h12 => ?_)
    refine jv_aload_n (jv_dk t_X13_readClause (k := 38) rfl) rfl rfl (Or.inr ⟨_, rfl⟩) ?_
    refine jv_gR (jv_dk t_X13_readClause (k := 39) rfl) fl_X13_51 (fun v13 => ?_)
    refine jv_iload_n (jv_dk t_X13_readClause (k := 40) rfl) rfl rfl ?_
    refine jv_iconst (v := 1) (jv_dk t_X13_readClause (k := 41) rfl) (by decide) ?_
    refine jv_iadd (jv_dk t_X13_readClause (k := 42) rfl) ?_
    refine jv_aload_n (jv_dk t_X13_readClause (k := 43) rfl) rfl rfl (Or.inr ⟨_, rfl⟩) ?_
    refine jv_bipush (v := 15) (jv_dk t_X13_readClause (k := 44) rfl) (by decide) ?_
    refine jv_callV (en' := jeI) (pv := jpI) (As := [.int (15)]) (S := [.int ((6 * v10) + 1), .ref (v13)]) (jv_dk t_X13_readClause (k := 45) rfl) (fun _ => rfl) (Or.inl lk_X13_179) me_X13_readNumber mv_X13_readNumber ⟨by decide, by decide⟩ rfl rfl rfl (Nat.le_of_ble_eq_true rfl) (P_X13_readNumber X x0 15 h12) (fun v14 h15 => ?_)
    show jv_O X M_X13_readClause _ jeV 83 [some (.ref (x0)), some (.int (x1)), some (.int (6 * v10))] [.int (v14), .int ((6 * v10) + 1), .ref (v13)] h15 _
    refine jv_iastore (jv_dk t_X13_readClause (k := 46) rfl) (fun h16 => ?_)
    refine jv_aload_n (jv_dk t_X13_readClause (k := 47) rfl) rfl rfl (Or.inr ⟨_, rfl⟩) ?_
    refine jv_gR (jv_dk t_X13_readClause (k := 48) rfl) fl_X13_51 (fun v17 => ?_)
    refine jv_iload_n (jv_dk t_X13_readClause (k := 49) rfl) rfl rfl ?_
    refine jv_iconst (v := 2) (jv_dk t_X13_readClause (k := 50) rfl) (by decide) ?_
    refine jv_iadd (jv_dk t_X13_readClause (k := 51) rfl) ?_
    refine jv_iload_n (jv_dk t_X13_readClause (k := 52) rfl) rfl rfl ?_
    refine jv_iconst (v := 4) (jv_dk t_X13_readClause (k := 53) rfl) (by decide) ?_
    refine jv_icmp_eq (tgt := 102) (jv_dk t_X13_readClause (k := 54) rfl) rfl (fun c18 => ?_) (fun c18 => ?_)
    · exact o_f_X13_readClause_b102 _ _ _ _ _ _ 
    · show jv_O _ _ _ _ 96 _ _ _ _
      refine jv_iload_n (jv_dk t_X13_readClause (k := 55) rfl) rfl rfl ?_
      refine jv_bipush (v := 6) (jv_dk t_X13_readClause (k := 56) rfl) (by decide) ?_
      refine jv_icmp_ne (tgt := 111) (jv_dk t_X13_readClause (k := 57) rfl) rfl (fun c51 => ?_) (fun c51 => ?_)
      · refine jv_iload_n (jv_dk t_X13_readClause (k := 62) rfl) rfl rfl ?_
        refine jv_bipush (v := 7) (jv_dk t_X13_readClause (k := 63) rfl) (by decide) ?_
        refine jv_icmp_eq (tgt := 123) (jv_dk t_X13_readClause (k := 64) rfl) rfl (fun c52 => ?_) (fun c52 => ?_)
        · exact o_f_X13_readClause_b123 _ _ _ _ _ _ 
        · show jv_O _ _ _ _ 117 _ _ _ _
          refine jv_iload_n (jv_dk t_X13_readClause (k := 65) rfl) rfl rfl ?_
          refine jv_bipush (v := 9) (jv_dk t_X13_readClause (k := 66) rfl) (by decide) ?_
          refine jv_icmp_ne (tgt := 132) (jv_dk t_X13_readClause (k := 67) rfl) rfl (fun c55 => ?_) (fun c55 => ?_)
          · refine jv_iload_n (jv_dk t_X13_readClause (k := 72) rfl) rfl rfl ?_
            refine jv_iconst (v := 5) (jv_dk t_X13_readClause (k := 73) rfl) (by decide) ?_
            refine jv_icmp_ne (tgt := 146) (jv_dk t_X13_readClause (k := 74) rfl) rfl (fun c56 => ?_) (fun c56 => ?_)
            · refine jv_iconst (v := 0) (jv_dk t_X13_readClause (k := 79) rfl) (by decide) ?_
              exact o_f_X13_readClause_b147 _ _ _ _ _ _ _ 
            · show jv_O _ _ _ _ 137 _ _ _ _
              refine jv_aload_n (jv_dk t_X13_readClause (k := 75) rfl) rfl rfl (Or.inr ⟨_, rfl⟩) ?_
              refine jv_bipush (v := 99) (jv_dk t_X13_readClause (k := 76) rfl) (by decide) ?_
              refine jv_callV (en' := jeI) (pv := jpI) (As := [.int (99)]) (S := [.int ((6 * v10) + 2), .ref (v17)]) (jv_dk t_X13_readClause (k := 77) rfl) (fun _ => rfl) (Or.inl lk_X13_179) me_X13_readNumber mv_X13_readNumber ⟨by decide, by decide⟩ rfl rfl rfl (Nat.le_of_ble_eq_true rfl) (P_X13_readNumber X x0 99 h16) (fun v57 h58 => ?_)
              show jv_O X M_X13_readClause _ jeV 143 [some (.ref (x0)), some (.int (x1)), some (.int (6 * v10))] [.int (v57), .int ((6 * v10) + 2), .ref (v17)] h58 _
              refine jv_goto (tgt := 147) (jv_dk t_X13_readClause (k := 78) rfl) rfl ?_
              exact o_f_X13_readClause_b147 _ _ _ _ _ _ _ 
          · show jv_O _ _ _ _ 123 _ _ _ _
            exact o_f_X13_readClause_b123 _ _ _ _ _ _ 
      · show jv_O _ _ _ _ 102 _ _ _ _
        exact o_f_X13_readClause_b102 _ _ _ _ _ _ 
  · show jv_O _ _ _ _ 50 _ _ _ _
    exact jv_vret (jv_dk t_X13_readClause (k := 25) rfl) rfl rfl
def f_X13_readClause_b22 (x0 : Nat) (x1 : Int32) (h : jh) : Option (Unit × jh) :=
  gI h x0 11 12 fun v5 =>
  (if ¬ v5 = 0 then
  f_X13_readClause_b43 x0 x1 h
  else
  gI h x0 11 16 fun v59 =>
  (if ¬ v59 = 60 then
  f_X13_readClause_b43 x0 x1 h
  else
  cV h x0 11 (f_X13_wrong x0 2 h) fun _ h61 =>
  f_X13_readClause_b43 x0 x1 h61))
theorem o_f_X13_readClause_b22 {X : jx} {b0 : Nat × Nat} (x0 : Nat) (x1 : Int32) (h : jh) : jv_O X M_X13_readClause b0 jeV 22 [some (.ref (x0)), some (.int (x1)), none] [] h (f_X13_readClause_b22 x0 x1 h) := by
  unfold f_X13_readClause_b22
  refine jv_aload_n (jv_dk t_X13_readClause (k := 12) rfl) rfl rfl (Or.inr ⟨_, rfl⟩) ?_
  refine jv_gI (jv_dk t_X13_readClause (k := 13) rfl) fl_X13_141 (fun v5 => ?_)
  refine jv_if_ne (tgt := 43) (jv_dk t_X13_readClause (k := 14) rfl) rfl (fun c6 => ?_) (fun c6 => ?_)
  · exact o_f_X13_readClause_b43 _ _ _ 
  · show jv_O _ _ _ _ 29 _ _ _ _
    refine jv_aload_n (jv_dk t_X13_readClause (k := 15) rfl) rfl rfl (Or.inr ⟨_, rfl⟩) ?_
    refine jv_gI (jv_dk t_X13_readClause (k := 16) rfl) fl_X13_176 (fun v59 => ?_)
    refine jv_bipush (v := 60) (jv_dk t_X13_readClause (k := 17) rfl) (by decide) ?_
    refine jv_icmp_ne (tgt := 43) (jv_dk t_X13_readClause (k := 18) rfl) rfl (fun c60 => ?_) (fun c60 => ?_)
    · exact o_f_X13_readClause_b43 _ _ _ 
    · show jv_O _ _ _ _ 38 _ _ _ _
      refine jv_aload_n (jv_dk t_X13_readClause (k := 19) rfl) rfl rfl (Or.inr ⟨_, rfl⟩) ?_
      refine jv_iconst (v := 2) (jv_dk t_X13_readClause (k := 20) rfl) (by decide) ?_
      refine jv_callV (en' := jeV) (pv := jpV) (As := [.int (2)]) (S := []) (jv_dk t_X13_readClause (k := 21) rfl) (fun _ => rfl) (Or.inl lk_X13_159) me_X13_wrong mv_X13_wrong ⟨by decide, by decide⟩ rfl rfl rfl (Nat.le_of_ble_eq_true rfl) (P_X13_wrong X x0 2 h) (fun _ h61 => ?_)
      show jv_O X M_X13_readClause _ jeV 43 [some (.ref (x0)), some (.int (x1)), none] [] h61 _
      exact o_f_X13_readClause_b43 _ _ _ 
def f_X13_readClause (a0 : Nat) (h : jh) : Option (Unit × jh) :=
  cV h a0 11 (f_X13_which a0 h) fun v1 h2 =>
  gI h2 a0 11 12 fun v3 =>
  (if ¬ v3 = 0 then
  f_X13_readClause_b22 a0 v1 h2
  else
  (if ¬ v1 = (-1) then
  f_X13_readClause_b22 a0 v1 h2
  else
  cV h2 a0 11 (f_X13_wrong a0 1 h2) fun _ h63 =>
  f_X13_readClause_b22 a0 v1 h63))
theorem P_X13_readClause (X : jx) (a0 : Nat) (h : jh) : jv_P X M_X13_readClause jeV [.ref (a0)] h (f_X13_readClause a0 h) := by
  refine jv_P.of (by decide) rfl (by simp [Value.category]) (Nat.le_of_ble_eq_true rfl) ?_
  show jv_O X M_X13_readClause (h.1, h.2.1) jeV 0 [some (.ref (a0)), none, none] [] h (f_X13_readClause a0 h)
  unfold f_X13_readClause
  refine jv_aload_n (jv_dk t_X13_readClause (k := 0) rfl) rfl rfl (Or.inr ⟨_, rfl⟩) ?_
  refine jv_callV (en' := jeI) (pv := jpI) (As := []) (S := []) (jv_dk t_X13_readClause (k := 1) rfl) (fun _ => rfl) (Or.inl lk_X13_166) me_X13_which mv_X13_which ⟨by decide, by decide⟩ rfl rfl rfl (Nat.le_of_ble_eq_true rfl) (P_X13_which X a0 h) (fun v1 h2 => ?_)
  show jv_O X M_X13_readClause _ jeV 4 [some (.ref (a0)), none, none] [.int (v1)] h2 _
  refine jv_istore_n (L' := [some (.ref (a0)), some (.int (v1)), none]) (jv_dk t_X13_readClause (k := 2) rfl) rfl (Nat.le_of_ble_eq_true rfl) rfl ?_
  refine jv_aload_n (jv_dk t_X13_readClause (k := 3) rfl) rfl rfl (Or.inr ⟨_, rfl⟩) ?_
  refine jv_gI (jv_dk t_X13_readClause (k := 4) rfl) fl_X13_141 (fun v3 => ?_)
  refine jv_if_ne (tgt := 22) (jv_dk t_X13_readClause (k := 5) rfl) rfl (fun c4 => ?_) (fun c4 => ?_)
  · exact o_f_X13_readClause_b22 _ _ _ 
  · show jv_O _ _ _ _ 12 _ _ _ _
    refine jv_iload_n (jv_dk t_X13_readClause (k := 6) rfl) rfl rfl ?_
    refine jv_iconst (v := (-1)) (jv_dk t_X13_readClause (k := 7) rfl) (by decide) ?_
    refine jv_icmp_ne (tgt := 22) (jv_dk t_X13_readClause (k := 8) rfl) rfl (fun c62 => ?_) (fun c62 => ?_)
    · exact o_f_X13_readClause_b22 _ _ _ 
    · show jv_O _ _ _ _ 17 _ _ _ _
      refine jv_aload_n (jv_dk t_X13_readClause (k := 9) rfl) rfl rfl (Or.inr ⟨_, rfl⟩) ?_
      refine jv_iconst (v := 1) (jv_dk t_X13_readClause (k := 10) rfl) (by decide) ?_
      refine jv_callV (en' := jeV) (pv := jpV) (As := [.int (1)]) (S := []) (jv_dk t_X13_readClause (k := 11) rfl) (fun _ => rfl) (Or.inl lk_X13_159) me_X13_wrong mv_X13_wrong ⟨by decide, by decide⟩ rfl rfl rfl (Nat.le_of_ble_eq_true rfl) (P_X13_wrong X a0 1 h2) (fun _ h63 => ?_)
      show jv_O X M_X13_readClause _ jeV 22 [some (.ref (a0)), some (.int (v1)), none] [] h63 _
      exact o_f_X13_readClause_b22 _ _ _ 
def t0_X13_of : List (Nat × Instr × Nat) := [(0, .aload_n 0, 1), (1, .getfield 37, 3), (4, .bipush 8, 2), (6, .iload_n 1, 1), (7, .imul, 1), (8, .iload_n 2, 1), (9, .iadd, 1), (10, .iaload, 1), (11, .ireturn, 1)]
theorem t_X13_of : jv_dec cX13_of t0_X13_of = true := by decide +kernel
def M_X13_of : jm := (yX13_of, cX13_of, 3, (some .int), 0, 0, [])
def f_X13_of (a0 : Nat) (a1 : Int32) (a2 : Int32) (h : jh) : Option (Int32 × jh) :=
  gR h a0 11 2 fun v1 =>
  aI h v1 ((8 * a1) + a2) fun v2 =>
  some (v2, h)
theorem P_X13_of (X : jx) (a0 : Nat) (a1 : Int32) (a2 : Int32) (h : jh) : jv_P X M_X13_of jeI [.ref (a0), .int (a1), .int (a2)] h (f_X13_of a0 a1 a2 h) := by
  refine jv_P.of (by decide) rfl (by simp [Value.category]) (Nat.le_of_ble_eq_true rfl) ?_
  show jv_O X M_X13_of (h.1, h.2.1) jeI 0 [some (.ref (a0)), some (.int (a1)), some (.int (a2))] [] h (f_X13_of a0 a1 a2 h)
  unfold f_X13_of
  refine jv_aload_n (jv_dk t_X13_of (k := 0) rfl) rfl rfl (Or.inr ⟨_, rfl⟩) ?_
  refine jv_gR (jv_dk t_X13_of (k := 1) rfl) fl_X13_37 (fun v1 => ?_)
  refine jv_bipush (v := 8) (jv_dk t_X13_of (k := 2) rfl) (by decide) ?_
  refine jv_iload_n (jv_dk t_X13_of (k := 3) rfl) rfl rfl ?_
  refine jv_imul (jv_dk t_X13_of (k := 4) rfl) ?_
  refine jv_iload_n (jv_dk t_X13_of (k := 5) rfl) rfl rfl ?_
  refine jv_iadd (jv_dk t_X13_of (k := 6) rfl) ?_
  refine jv_iaload (jv_dk t_X13_of (k := 7) rfl) (fun v2 => ?_)
  exact jv_iret (ty := .int) (jv_dk t_X13_of (k := 8) rfl) rfl rfl rfl
def t0_X13_isThere : List (Nat × Instr × Nat) := [(0, .iload_n 1, 1), (1, .iconst 0, 1), (2, .bipush 15, 2), (4, .invokestatic 169, 3), (7, .ifCond .eq 17, 3), (10, .aload_n 0, 1), (11, .iload_n 1, 1), (12, .iconst 0, 1), (13, .invokevirtual 205, 3), (16, .iconst 1, 1), (17, .if_icmp .ne 7, 3), (20, .iconst 1, 1), (21, .goto 4, 3), (24, .iconst 0, 1), (25, .ireturn, 1)]
theorem t_X13_isThere : jv_dec cX13_isThere t0_X13_isThere = true := by decide +kernel
def M_X13_isThere : jm := (yX13_isThere, cX13_isThere, 2, (some .boolean), 1, 22, [])
theorem lk_X13_205 : Cond.methodLink RX13 205 M_X13_of.1 ∈ lw_tbl := (jv_at 1554 (by decide +kernel))
set_option maxRecDepth 20000 in
theorem me_X13_of : jv_me M_X13_of 2 := ⟨(jv_in6 (List.mem_of_getElem? (i := 197) rfl)), (jv_at 172 (by decide +kernel)), ⟨by decide, by decide⟩, by decide +kernel⟩
theorem mv_X13_of : jv_mv M_X13_of := ⟨(jv_at 1556 (by decide +kernel)), (jv_at 108 (by decide +kernel))⟩
def f_X13_isThere (a0 : Nat) (a1 : Int32) (h : jh) : Option (Int32 × jh) :=
  bd (f_X13_isIn a1 0 15 h) fun v1 h2 =>
  (if v1 = 0 then
  some (0, h2)
  else
  cV h2 a0 11 (f_X13_of a0 a1 0 h2) fun v4 h5 =>
  (if ¬ v4 = 1 then
  some (0, h5)
  else
  some (1, h5)))
theorem P_X13_isThere (X : jx) (a0 : Nat) (a1 : Int32) (h : jh) : jv_P X M_X13_isThere jeI [.ref (a0), .int (a1)] h (f_X13_isThere a0 a1 h) := by
  refine jv_P.of (by decide) rfl (by simp [Value.category]) (Nat.le_of_ble_eq_true rfl) ?_
  show jv_O X M_X13_isThere (h.1, h.2.1) jeI 0 [some (.ref (a0)), some (.int (a1))] [] h (f_X13_isThere a0 a1 h)
  unfold f_X13_isThere
  refine jv_iload_n (jv_dk t_X13_isThere (k := 0) rfl) rfl rfl ?_
  refine jv_iconst (v := 0) (jv_dk t_X13_isThere (k := 1) rfl) (by decide) ?_
  refine jv_bipush (v := 15) (jv_dk t_X13_isThere (k := 2) rfl) (by decide) ?_
  refine jv_callS (en' := jeI) (pv := jpI) (As := [.int (a1), .int (0), .int (15)]) (S := []) (jv_dk t_X13_isThere (k := 3) rfl) (fun _ => rfl) (Or.inl lk_X13_169) me_X13_isIn ms_X13_isIn ⟨by decide, by decide⟩ rfl rfl (Nat.le_of_ble_eq_true rfl) (P_X13_isIn X a1 0 15 h) (fun v1 h2 => ?_)
  show jv_O X M_X13_isThere _ jeI 7 [some (.ref (a0)), some (.int (a1))] [.int (v1)] h2 _
  refine jv_if_eq (tgt := 24) (jv_dk t_X13_isThere (k := 4) rfl) rfl (fun c3 => ?_) (fun c3 => ?_)
  · refine jv_iconst (v := 0) (jv_dk t_X13_isThere (k := 13) rfl) (by decide) ?_
    exact jv_iret (ty := .boolean) (jv_dk t_X13_isThere (k := 14) rfl) rfl rfl rfl
  · show jv_O _ _ _ _ 10 _ _ _ _
    refine jv_aload_n (jv_dk t_X13_isThere (k := 5) rfl) rfl rfl (Or.inr ⟨_, rfl⟩) ?_
    refine jv_iload_n (jv_dk t_X13_isThere (k := 6) rfl) rfl rfl ?_
    refine jv_iconst (v := 0) (jv_dk t_X13_isThere (k := 7) rfl) (by decide) ?_
    refine jv_callV (en' := jeI) (pv := jpI) (As := [.int (a1), .int (0)]) (S := []) (jv_dk t_X13_isThere (k := 8) rfl) (fun _ => rfl) (Or.inl lk_X13_205) me_X13_of mv_X13_of ⟨by decide, by decide⟩ rfl rfl rfl (Nat.le_of_ble_eq_true rfl) (P_X13_of X a0 a1 0 h2) (fun v4 h5 => ?_)
    show jv_O X M_X13_isThere _ jeI 16 [some (.ref (a0)), some (.int (a1))] [.int (v4)] h5 _
    refine jv_iconst (v := 1) (jv_dk t_X13_isThere (k := 9) rfl) (by decide) ?_
    refine jv_icmp_ne (tgt := 24) (jv_dk t_X13_isThere (k := 10) rfl) rfl (fun c6 => ?_) (fun c6 => ?_)
    · refine jv_iconst (v := 0) (jv_dk t_X13_isThere (k := 13) rfl) (by decide) ?_
      exact jv_iret (ty := .boolean) (jv_dk t_X13_isThere (k := 14) rfl) rfl rfl rfl
    · show jv_O _ _ _ _ 20 _ _ _ _
      refine jv_iconst (v := 1) (jv_dk t_X13_isThere (k := 11) rfl) (by decide) ?_
      refine jv_goto (tgt := 25) (jv_dk t_X13_isThere (k := 12) rfl) rfl ?_
      exact jv_iret (ty := .boolean) (jv_dk t_X13_isThere (k := 14) rfl) rfl rfl rfl
def t0_X13_spaceOf : List (Nat × Instr × Nat) := [(0, .aload_n 0, 1), (1, .getfield 37, 3), (4, .iload_n 1, 1), (5, .iload_n 2, 1), (6, .invokestatic 99, 3), (9, .iload_n 3, 1), (10, .iadd, 1), (11, .iaload, 1), (12, .ireturn, 1)]
theorem t_X13_spaceOf : jv_dec cX13_spaceOf t0_X13_spaceOf = true := by decide +kernel
def M_X13_spaceOf : jm := (yX13_spaceOf, cX13_spaceOf, 4, (some .int), 1, 21, [])
def f_X13_spaceOf (a0 : Nat) (a1 : Int32) (a2 : Int32) (a3 : Int32) (h : jh) : Option (Int32 × jh) :=
  gR h a0 11 2 fun v1 =>
  bd (f_X13_spaceAt a1 a2 h) fun v2 h3 =>
  aI h3 v1 (v2 + a3) fun v4 =>
  some (v4, h3)
theorem P_X13_spaceOf (X : jx) (a0 : Nat) (a1 : Int32) (a2 : Int32) (a3 : Int32) (h : jh) : jv_P X M_X13_spaceOf jeI [.ref (a0), .int (a1), .int (a2), .int (a3)] h (f_X13_spaceOf a0 a1 a2 a3 h) := by
  refine jv_P.of (by decide) rfl (by simp [Value.category]) (Nat.le_of_ble_eq_true rfl) ?_
  show jv_O X M_X13_spaceOf (h.1, h.2.1) jeI 0 [some (.ref (a0)), some (.int (a1)), some (.int (a2)), some (.int (a3))] [] h (f_X13_spaceOf a0 a1 a2 a3 h)
  unfold f_X13_spaceOf
  refine jv_aload_n (jv_dk t_X13_spaceOf (k := 0) rfl) rfl rfl (Or.inr ⟨_, rfl⟩) ?_
  refine jv_gR (jv_dk t_X13_spaceOf (k := 1) rfl) fl_X13_37 (fun v1 => ?_)
  refine jv_iload_n (jv_dk t_X13_spaceOf (k := 2) rfl) rfl rfl ?_
  refine jv_iload_n (jv_dk t_X13_spaceOf (k := 3) rfl) rfl rfl ?_
  refine jv_callS (en' := jeI) (pv := jpI) (As := [.int (a1), .int (a2)]) (S := [.ref (v1)]) (jv_dk t_X13_spaceOf (k := 4) rfl) (fun _ => rfl) (Or.inl lk_X13_99) me_X13_spaceAt ms_X13_spaceAt ⟨by decide, by decide⟩ rfl rfl (Nat.le_of_ble_eq_true rfl) (P_X13_spaceAt X a1 a2 h) (fun v2 h3 => ?_)
  show jv_O X M_X13_spaceOf _ jeI 9 [some (.ref (a0)), some (.int (a1)), some (.int (a2)), some (.int (a3))] [.int (v2), .ref (v1)] h3 _
  refine jv_iload_n (jv_dk t_X13_spaceOf (k := 5) rfl) rfl rfl ?_
  refine jv_iadd (jv_dk t_X13_spaceOf (k := 6) rfl) ?_
  refine jv_iaload (jv_dk t_X13_spaceOf (k := 7) rfl) (fun v4 => ?_)
  exact jv_iret (ty := .int) (jv_dk t_X13_spaceOf (k := 8) rfl) rfl rfl rfl
def t0_X13_isDead : List (Nat × Instr × Nat) := [(0, .aload_n 0, 1), (1, .iconst 0, 1), (2, .iload_n 1, 1), (3, .iconst 5, 1), (4, .invokevirtual 217, 3), (7, .iconst 1, 1), (8, .if_icmp .ne 18, 3), (11, .aload_n 0, 1), (12, .iconst 0, 1), (13, .iload_n 1, 1), (14, .iconst 4, 1), (15, .invokevirtual 217, 3), (18, .iconst (-1), 1), (19, .if_icmp .ne 7, 3), (22, .iconst 1, 1), (23, .goto 4, 3), (26, .iconst 0, 1), (27, .ireturn, 1)]
theorem t_X13_isDead : jv_dec cX13_isDead t0_X13_isDead = true := by decide +kernel
def M_X13_isDead : jm := (yX13_isDead, cX13_isDead, 2, (some .boolean), 2, 44, [])
theorem lk_X13_217 : Cond.methodLink RX13 217 M_X13_spaceOf.1 ∈ lw_tbl := (jv_at 1566 (by decide +kernel))
set_option maxRecDepth 20000 in
theorem me_X13_spaceOf : jv_me M_X13_spaceOf 3 := ⟨(jv_in6 (List.mem_of_getElem? (i := 209) rfl)), (jv_at 172 (by decide +kernel)), ⟨by decide, by decide⟩, by decide +kernel⟩
theorem mv_X13_spaceOf : jv_mv M_X13_spaceOf := ⟨(jv_at 1568 (by decide +kernel)), (jv_at 111 (by decide +kernel))⟩
def f_X13_isDead (a0 : Nat) (a1 : Int32) (h : jh) : Option (Int32 × jh) :=
  cV h a0 11 (f_X13_spaceOf a0 0 a1 5 h) fun v1 h2 =>
  (if ¬ v1 = 1 then
  some (0, h2)
  else
  cV h2 a0 11 (f_X13_spaceOf a0 0 a1 4 h2) fun v4 h5 =>
  (if ¬ v4 = (-1) then
  some (0, h5)
  else
  some (1, h5)))
theorem P_X13_isDead (X : jx) (a0 : Nat) (a1 : Int32) (h : jh) : jv_P X M_X13_isDead jeI [.ref (a0), .int (a1)] h (f_X13_isDead a0 a1 h) := by
  refine jv_P.of (by decide) rfl (by simp [Value.category]) (Nat.le_of_ble_eq_true rfl) ?_
  show jv_O X M_X13_isDead (h.1, h.2.1) jeI 0 [some (.ref (a0)), some (.int (a1))] [] h (f_X13_isDead a0 a1 h)
  unfold f_X13_isDead
  refine jv_aload_n (jv_dk t_X13_isDead (k := 0) rfl) rfl rfl (Or.inr ⟨_, rfl⟩) ?_
  refine jv_iconst (v := 0) (jv_dk t_X13_isDead (k := 1) rfl) (by decide) ?_
  refine jv_iload_n (jv_dk t_X13_isDead (k := 2) rfl) rfl rfl ?_
  refine jv_iconst (v := 5) (jv_dk t_X13_isDead (k := 3) rfl) (by decide) ?_
  refine jv_callV (en' := jeI) (pv := jpI) (As := [.int (0), .int (a1), .int (5)]) (S := []) (jv_dk t_X13_isDead (k := 4) rfl) (fun _ => rfl) (Or.inl lk_X13_217) me_X13_spaceOf mv_X13_spaceOf ⟨by decide, by decide⟩ rfl rfl rfl (Nat.le_of_ble_eq_true rfl) (P_X13_spaceOf X a0 0 a1 5 h) (fun v1 h2 => ?_)
  show jv_O X M_X13_isDead _ jeI 7 [some (.ref (a0)), some (.int (a1))] [.int (v1)] h2 _
  refine jv_iconst (v := 1) (jv_dk t_X13_isDead (k := 5) rfl) (by decide) ?_
  refine jv_icmp_ne (tgt := 26) (jv_dk t_X13_isDead (k := 6) rfl) rfl (fun c3 => ?_) (fun c3 => ?_)
  · refine jv_iconst (v := 0) (jv_dk t_X13_isDead (k := 16) rfl) (by decide) ?_
    exact jv_iret (ty := .boolean) (jv_dk t_X13_isDead (k := 17) rfl) rfl rfl rfl
  · show jv_O _ _ _ _ 11 _ _ _ _
    refine jv_aload_n (jv_dk t_X13_isDead (k := 7) rfl) rfl rfl (Or.inr ⟨_, rfl⟩) ?_
    refine jv_iconst (v := 0) (jv_dk t_X13_isDead (k := 8) rfl) (by decide) ?_
    refine jv_iload_n (jv_dk t_X13_isDead (k := 9) rfl) rfl rfl ?_
    refine jv_iconst (v := 4) (jv_dk t_X13_isDead (k := 10) rfl) (by decide) ?_
    refine jv_callV (en' := jeI) (pv := jpI) (As := [.int (0), .int (a1), .int (4)]) (S := []) (jv_dk t_X13_isDead (k := 11) rfl) (fun _ => rfl) (Or.inl lk_X13_217) me_X13_spaceOf mv_X13_spaceOf ⟨by decide, by decide⟩ rfl rfl rfl (Nat.le_of_ble_eq_true rfl) (P_X13_spaceOf X a0 0 a1 4 h2) (fun v4 h5 => ?_)
    show jv_O X M_X13_isDead _ jeI 18 [some (.ref (a0)), some (.int (a1))] [.int (v4)] h5 _
    refine jv_iconst (v := (-1)) (jv_dk t_X13_isDead (k := 12) rfl) (by decide) ?_
    refine jv_icmp_ne (tgt := 26) (jv_dk t_X13_isDead (k := 13) rfl) rfl (fun c6 => ?_) (fun c6 => ?_)
    · refine jv_iconst (v := 0) (jv_dk t_X13_isDead (k := 16) rfl) (by decide) ?_
      exact jv_iret (ty := .boolean) (jv_dk t_X13_isDead (k := 17) rfl) rfl rfl rfl
    · show jv_O _ _ _ _ 22 _ _ _ _
      refine jv_iconst (v := 1) (jv_dk t_X13_isDead (k := 14) rfl) (by decide) ?_
      refine jv_goto (tgt := 27) (jv_dk t_X13_isDead (k := 15) rfl) rfl ?_
      exact jv_iret (ty := .boolean) (jv_dk t_X13_isDead (k := 17) rfl) rfl rfl rfl
def t0_X13_numberAt : List (Nat × Instr × Nat) := [(0, .sipush 128, 3), (3, .bipush 8, 2), (5, .iload_n 0, 1), (6, .imul, 1), (7, .iadd, 1), (8, .iload_n 1, 1), (9, .iadd, 1), (10, .ireturn, 1)]
theorem t_X13_numberAt : jv_dec cX13_numberAt t0_X13_numberAt = true := by decide +kernel
def M_X13_numberAt : jm := (yX13_numberAt, cX13_numberAt, 2, (some .int), 0, 0, [])
def f_X13_numberAt (a0 : Int32) (a1 : Int32) (h : jh) : Option (Int32 × jh) :=
  some ((128 + (8 * a0)) + a1, h)
theorem P_X13_numberAt (X : jx) (a0 : Int32) (a1 : Int32) (h : jh) : jv_P X M_X13_numberAt jeI [.int (a0), .int (a1)] h (f_X13_numberAt a0 a1 h) := by
  refine jv_P.of (by decide) rfl (by simp [Value.category]) (Nat.le_of_ble_eq_true rfl) ?_
  show jv_O X M_X13_numberAt (h.1, h.2.1) jeI 0 [some (.int (a0)), some (.int (a1))] [] h (f_X13_numberAt a0 a1 h)
  unfold f_X13_numberAt
  refine jv_sipush (v := 128) (jv_dk t_X13_numberAt (k := 0) rfl) (by decide) ?_
  refine jv_bipush (v := 8) (jv_dk t_X13_numberAt (k := 1) rfl) (by decide) ?_
  refine jv_iload_n (jv_dk t_X13_numberAt (k := 2) rfl) rfl rfl ?_
  refine jv_imul (jv_dk t_X13_numberAt (k := 3) rfl) ?_
  refine jv_iadd (jv_dk t_X13_numberAt (k := 4) rfl) ?_
  refine jv_iload_n (jv_dk t_X13_numberAt (k := 5) rfl) rfl rfl ?_
  refine jv_iadd (jv_dk t_X13_numberAt (k := 6) rfl) ?_
  exact jv_iret (ty := .int) (jv_dk t_X13_numberAt (k := 7) rfl) rfl rfl rfl
def t0_X13_numberOf : List (Nat × Instr × Nat) := [(0, .aload_n 0, 1), (1, .getfield 37, 3), (4, .iload_n 1, 1), (5, .iload_n 2, 1), (6, .invokestatic 211, 3), (9, .iaload, 1), (10, .ireturn, 1)]
theorem t_X13_numberOf : jv_dec cX13_numberOf t0_X13_numberOf = true := by decide +kernel
def M_X13_numberOf : jm := (yX13_numberOf, cX13_numberOf, 3, (some .int), 1, 21, [])
theorem lk_X13_211 : Cond.methodLink RX13 211 M_X13_numberAt.1 ∈ lw_tbl := (jv_at 1582 (by decide +kernel))
set_option maxRecDepth 20000 in
theorem me_X13_numberAt : jv_me M_X13_numberAt 2 := ⟨(jv_in6 (List.mem_of_getElem? (i := 224) rfl)), (jv_at 172 (by decide +kernel)), ⟨by decide, by decide⟩, by decide +kernel⟩
theorem ms_X13_numberAt : jv_ms M_X13_numberAt := (jv_at 1583 (by decide +kernel))
def f_X13_numberOf (a0 : Nat) (a1 : Int32) (a2 : Int32) (h : jh) : Option (Int32 × jh) :=
  gR h a0 11 2 fun v1 =>
  bd (f_X13_numberAt a1 a2 h) fun v2 h3 =>
  aI h3 v1 v2 fun v4 =>
  some (v4, h3)
theorem P_X13_numberOf (X : jx) (a0 : Nat) (a1 : Int32) (a2 : Int32) (h : jh) : jv_P X M_X13_numberOf jeI [.ref (a0), .int (a1), .int (a2)] h (f_X13_numberOf a0 a1 a2 h) := by
  refine jv_P.of (by decide) rfl (by simp [Value.category]) (Nat.le_of_ble_eq_true rfl) ?_
  show jv_O X M_X13_numberOf (h.1, h.2.1) jeI 0 [some (.ref (a0)), some (.int (a1)), some (.int (a2))] [] h (f_X13_numberOf a0 a1 a2 h)
  unfold f_X13_numberOf
  refine jv_aload_n (jv_dk t_X13_numberOf (k := 0) rfl) rfl rfl (Or.inr ⟨_, rfl⟩) ?_
  refine jv_gR (jv_dk t_X13_numberOf (k := 1) rfl) fl_X13_37 (fun v1 => ?_)
  refine jv_iload_n (jv_dk t_X13_numberOf (k := 2) rfl) rfl rfl ?_
  refine jv_iload_n (jv_dk t_X13_numberOf (k := 3) rfl) rfl rfl ?_
  refine jv_callS (en' := jeI) (pv := jpI) (As := [.int (a1), .int (a2)]) (S := [.ref (v1)]) (jv_dk t_X13_numberOf (k := 4) rfl) (fun _ => rfl) (Or.inl lk_X13_211) me_X13_numberAt ms_X13_numberAt ⟨by decide, by decide⟩ rfl rfl (Nat.le_of_ble_eq_true rfl) (P_X13_numberAt X a1 a2 h) (fun v2 h3 => ?_)
  show jv_O X M_X13_numberOf _ jeI 9 [some (.ref (a0)), some (.int (a1)), some (.int (a2))] [.int (v2), .ref (v1)] h3 _
  refine jv_iaload (jv_dk t_X13_numberOf (k := 5) rfl) (fun v4 => ?_)
  exact jv_iret (ty := .int) (jv_dk t_X13_numberOf (k := 6) rfl) rfl rfl rfl
def t0_X13_whose : List (Nat × Instr × Nat) := [(0, .iconst 0, 1), (1, .istore_n 3, 1), (2, .iload_n 3, 1), (3, .bipush 16, 2), (5, .if_icmp .ge 31, 3), (8, .aload_n 0, 1), (9, .iload_n 3, 1), (10, .iconst 0, 1), (11, .invokevirtual 205, 3), (14, .iconst 1, 1), (15, .if_icmp .ne 15, 3), (18, .aload_n 0, 1), (19, .iload_n 3, 1), (20, .iload_n 1, 1), (21, .invokevirtual 214, 3), (24, .iload_n 2, 1), (25, .if_icmp .ne 5, 3), (28, .iload_n 3, 1), (29, .ireturn, 1), (30, .iinc 3 1, 3), (33, .goto (-31), 3), (36, .iconst (-1), 1), (37, .ireturn, 1)]
theorem t_X13_whose : jv_dec cX13_whose t0_X13_whose = true := by decide +kernel
def M_X13_whose : jm := (yX13_whose, cX13_whose, 4, (some .int), 2, 43, [])
theorem lk_X13_214 : Cond.methodLink RX13 214 M_X13_numberOf.1 ∈ lw_tbl := (jv_at 1578 (by decide +kernel))
set_option maxRecDepth 20000 in
theorem me_X13_numberOf : jv_me M_X13_numberOf 2 := ⟨(jv_in6 (List.mem_of_getElem? (i := 221) rfl)), (jv_at 172 (by decide +kernel)), ⟨by decide, by decide⟩, by decide +kernel⟩
theorem mv_X13_numberOf : jv_mv M_X13_numberOf := ⟨(jv_at 1580 (by decide +kernel)), (jv_at 114 (by decide +kernel))⟩
def f_X13_whose_h2 (K2 : jh → Option (Int32 × jh)) (R2 : Nat → Int32 → Int32 → Int32 → jh → Option (Int32 × jh)) (x0 : Nat) (x1 : Int32) (x2 : Int32) (x3 : Int32) (h : jh) : Option (Int32 × jh) :=
  (if 16 ≤ x3 then
  K2  h
  else
  cV h x0 11 (f_X13_of x0 x3 0 h) fun v2 h3 =>
  (if ¬ v2 = 1 then
  R2 x0 x1 x2 (x3 + 1) h3
  else
  cV h3 x0 11 (f_X13_numberOf x0 x3 x1 h3) fun v5 h6 =>
  (if ¬ v5 = x2 then
  R2 x0 x1 x2 (x3 + 1) h6
  else
  some (x3, h6))))
theorem o_f_X13_whose_h2 {X : jx} {b0 : Nat × Nat} {K2 : jh → Option (Int32 × jh)} (hK2 : ∀  (h : jh), jv_O X M_X13_whose b0 jeI 36 [none, none, none, none] [] h (K2  h)) : ∀ (x0 : Nat) (x1 : Int32) (x2 : Int32) (x3 : Int32) (h : jh), jv_O X M_X13_whose b0 jeI 2 [some (.ref (x0)), some (.int (x1)), some (.int (x2)), some (.int (x3))] [] h (jlp4 (f_X13_whose_h2 K2) jfu x0 x1 x2 x3 h) := by
  refine jlp4_ok (P := fun x0 x1 x2 x3 h o => jv_O X M_X13_whose b0 jeI 2 [some (.ref (x0)), some (.int (x1)), some (.int (x2)), some (.int (x3))] [] h o) (fun R2 hR2 => ?_) (fun _ _ _ _ _  => jv_none rfl) jfu
  intro x0 x1 x2 x3 h
  unfold f_X13_whose_h2
  refine jv_iload_n (jv_dk t_X13_whose (k := 2) rfl) rfl rfl ?_
  refine jv_bipush (v := 16) (jv_dk t_X13_whose (k := 3) rfl) (by decide) ?_
  refine jv_icmp_ge (tgt := 36) (jv_dk t_X13_whose (k := 4) rfl) rfl (fun c1 => ?_) (fun c1 => ?_)
  · refine jv_le_row (jv_le_n (jv_le_n (jv_le_n (jv_le_n (jv_le_nil))))) ?_
    exact hK2 _ 
  · show jv_O _ _ _ _ 8 _ _ _ _
    refine jv_aload_n (jv_dk t_X13_whose (k := 5) rfl) rfl rfl (Or.inr ⟨_, rfl⟩) ?_
    refine jv_iload_n (jv_dk t_X13_whose (k := 6) rfl) rfl rfl ?_
    refine jv_iconst (v := 0) (jv_dk t_X13_whose (k := 7) rfl) (by decide) ?_
    refine jv_callV (en' := jeI) (pv := jpI) (As := [.int (x3), .int (0)]) (S := []) (jv_dk t_X13_whose (k := 8) rfl) (fun _ => rfl) (Or.inl lk_X13_205) me_X13_of mv_X13_of ⟨by decide, by decide⟩ rfl rfl rfl (Nat.le_of_ble_eq_true rfl) (P_X13_of X x0 x3 0 h) (fun v2 h3 => ?_)
    show jv_O X M_X13_whose _ jeI 14 [some (.ref (x0)), some (.int (x1)), some (.int (x2)), some (.int (x3))] [.int (v2)] h3 _
    refine jv_iconst (v := 1) (jv_dk t_X13_whose (k := 9) rfl) (by decide) ?_
    refine jv_icmp_ne (tgt := 30) (jv_dk t_X13_whose (k := 10) rfl) rfl (fun c4 => ?_) (fun c4 => ?_)
    · refine jv_iinc (v := 1) (L' := [some (.ref (x0)), some (.int (x1)), some (.int (x2)), some (.int (x3 + 1))]) (jv_dk t_X13_whose (k := 19) rfl) rfl (by decide) rfl ?_
      refine jv_goto (tgt := 2) (jv_dk t_X13_whose (k := 20) rfl) rfl ?_
      exact hR2 _ _ _ _ _ 
    · show jv_O _ _ _ _ 18 _ _ _ _
      refine jv_aload_n (jv_dk t_X13_whose (k := 11) rfl) rfl rfl (Or.inr ⟨_, rfl⟩) ?_
      refine jv_iload_n (jv_dk t_X13_whose (k := 12) rfl) rfl rfl ?_
      refine jv_iload_n (jv_dk t_X13_whose (k := 13) rfl) rfl rfl ?_
      refine jv_callV (en' := jeI) (pv := jpI) (As := [.int (x3), .int (x1)]) (S := []) (jv_dk t_X13_whose (k := 14) rfl) (fun _ => rfl) (Or.inl lk_X13_214) me_X13_numberOf mv_X13_numberOf ⟨by decide, by decide⟩ rfl rfl rfl (Nat.le_of_ble_eq_true rfl) (P_X13_numberOf X x0 x3 x1 h3) (fun v5 h6 => ?_)
      show jv_O X M_X13_whose _ jeI 24 [some (.ref (x0)), some (.int (x1)), some (.int (x2)), some (.int (x3))] [.int (v5)] h6 _
      refine jv_iload_n (jv_dk t_X13_whose (k := 15) rfl) rfl rfl ?_
      refine jv_icmp_ne (tgt := 30) (jv_dk t_X13_whose (k := 16) rfl) rfl (fun c7 => ?_) (fun c7 => ?_)
      · refine jv_iinc (v := 1) (L' := [some (.ref (x0)), some (.int (x1)), some (.int (x2)), some (.int (x3 + 1))]) (jv_dk t_X13_whose (k := 19) rfl) rfl (by decide) rfl ?_
        refine jv_goto (tgt := 2) (jv_dk t_X13_whose (k := 20) rfl) rfl ?_
        exact hR2 _ _ _ _ _ 
      · show jv_O _ _ _ _ 28 _ _ _ _
        refine jv_iload_n (jv_dk t_X13_whose (k := 17) rfl) rfl rfl ?_
        exact jv_iret (ty := .int) (jv_dk t_X13_whose (k := 18) rfl) rfl rfl rfl
def f_X13_whose (a0 : Nat) (a1 : Int32) (a2 : Int32) (h : jh) : Option (Int32 × jh) :=
  jlp4 (f_X13_whose_h2 (fun  h8 =>
  some ((-1), h8))) jfu a0 a1 a2 0 h
theorem P_X13_whose (X : jx) (a0 : Nat) (a1 : Int32) (a2 : Int32) (h : jh) : jv_P X M_X13_whose jeI [.ref (a0), .int (a1), .int (a2)] h (f_X13_whose a0 a1 a2 h) := by
  refine jv_P.of (by decide) rfl (by simp [Value.category]) (Nat.le_of_ble_eq_true rfl) ?_
  show jv_O X M_X13_whose (h.1, h.2.1) jeI 0 [some (.ref (a0)), some (.int (a1)), some (.int (a2)), none] [] h (f_X13_whose a0 a1 a2 h)
  unfold f_X13_whose
  refine jv_iconst (v := 0) (jv_dk t_X13_whose (k := 0) rfl) (by decide) ?_
  refine jv_istore_n (L' := [some (.ref (a0)), some (.int (a1)), some (.int (a2)), some (.int (0))]) (jv_dk t_X13_whose (k := 1) rfl) rfl (Nat.le_of_ble_eq_true rfl) rfl ?_
  refine o_f_X13_whose_h2 (fun  h8 => ?_) _ _ _ _ _ 
  show jv_O X M_X13_whose _ jeI 36 [none, none, none, none] [] h8 _
  refine jv_iconst (v := (-1)) (jv_dk t_X13_whose (k := 21) rfl) (by decide) ?_
  exact jv_iret (ty := .int) (jv_dk t_X13_whose (k := 22) rfl) rfl rfl rfl
def t0_X13_freeNumber : List (Nat × Instr × Nat) := [(0, .iload_n 2, 1), (1, .ifCond .eq 15, 3), (4, .aload_n 0, 1), (5, .iconst 0, 1), (6, .iload_n 1, 1), (7, .iconst 5, 1), (8, .invokevirtual 217, 3), (11, .ifCond .ne 5, 3), (14, .iconst 1, 1), (15, .ireturn, 1), (16, .aload_n 0, 1), (17, .iconst 0, 1), (18, .iload_n 1, 1), (19, .iconst 3, 1), (20, .invokevirtual 217, 3), (23, .istore_n 3, 1), (24, .iconst 2, 1), (25, .istore 4, 2), (27, .iload 4, 2), (29, .bipush 20, 2), (31, .if_icmp .gt 35, 3), (34, .iload_n 3, 1), (35, .bipush 20, 2), (37, .if_icmp .ne 7, 3), (40, .iconst 2, 1), (41, .goto 6, 3), (44, .iload_n 3, 1), (45, .iconst 1, 1), (46, .iadd, 1), (47, .istore_n 3, 1), (48, .aload_n 0, 1), (49, .iload_n 1, 1), (50, .iload_n 3, 1), (51, .invokevirtual 238, 3), (54, .iconst (-1), 1), (55, .if_icmp .ne 5, 3), (58, .iload_n 3, 1), (59, .ireturn, 1), (60, .iinc 4 1, 3), (63, .goto (-36), 3), (66, .iconst 0, 1), (67, .ireturn, 1)]
theorem t_X13_freeNumber : jv_dec cX13_freeNumber t0_X13_freeNumber = true := by decide +kernel
def M_X13_freeNumber : jm := (yX13_freeNumber, cX13_freeNumber, 5, (some .int), 3, 66, [])
theorem lk_X13_238 : Cond.methodLink RX13 238 M_X13_whose.1 ∈ lw_tbl := (jv_at 1574 (by decide +kernel))
set_option maxRecDepth 20000 in
theorem me_X13_whose : jv_me M_X13_whose 2 := ⟨(jv_in6 (List.mem_of_getElem? (i := 217) rfl)), (jv_at 172 (by decide +kernel)), ⟨by decide, by decide⟩, by decide +kernel⟩
theorem mv_X13_whose : jv_mv M_X13_whose := ⟨(jv_at 1576 (by decide +kernel)), (jv_at 113 (by decide +kernel))⟩
def f_X13_freeNumber_b47 (R27 : Nat → Int32 → Int32 → Int32 → jh → Option (Int32 × jh)) (K27 : jh → Option (Int32 × jh)) (x0 : Nat) (x1 : Int32) (x4 : Int32) (s0 : Int32) (h : jh) : Option (Int32 × jh) :=
  cV h x0 11 (f_X13_whose x0 x1 s0 h) fun v6 h7 =>
  (if ¬ v6 = (-1) then
  R27 x0 x1 s0 (x4 + 1) h7
  else
  some (s0, h7))
theorem o_f_X13_freeNumber_b47 {X : jx} {b0 : Nat × Nat} {R27 : Nat → Int32 → Int32 → Int32 → jh → Option (Int32 × jh)} {K27 : jh → Option (Int32 × jh)} (hR27 : ∀ (x0 : Nat) (x1 : Int32) (x3 : Int32) (x4 : Int32) (h : jh), jv_O X M_X13_freeNumber b0 jeI 27 [some (.ref (x0)), some (.int (x1)), none, some (.int (x3)), some (.int (x4))] [] h (R27 x0 x1 x3 x4 h)) (hK27 : ∀  (h : jh), jv_O X M_X13_freeNumber b0 jeI 66 [none, none, none, none, none] [] h (K27  h)) (x0 : Nat) (x1 : Int32) (x4 : Int32) (s0 : Int32) (h : jh) : jv_O X M_X13_freeNumber b0 jeI 47 [some (.ref (x0)), some (.int (x1)), none, none, some (.int (x4))] [.int (s0)] h (f_X13_freeNumber_b47 R27 K27 x0 x1 x4 s0 h) := by
  unfold f_X13_freeNumber_b47
  refine jv_istore_n (L' := [some (.ref (x0)), some (.int (x1)), none, some (.int (s0)), some (.int (x4))]) (jv_dk t_X13_freeNumber (k := 29) rfl) rfl (Nat.le_of_ble_eq_true rfl) rfl ?_
  refine jv_aload_n (jv_dk t_X13_freeNumber (k := 30) rfl) rfl rfl (Or.inr ⟨_, rfl⟩) ?_
  refine jv_iload_n (jv_dk t_X13_freeNumber (k := 31) rfl) rfl rfl ?_
  refine jv_iload_n (jv_dk t_X13_freeNumber (k := 32) rfl) rfl rfl ?_
  refine jv_callV (en' := jeI) (pv := jpI) (As := [.int (x1), .int (s0)]) (S := []) (jv_dk t_X13_freeNumber (k := 33) rfl) (fun _ => rfl) (Or.inl lk_X13_238) me_X13_whose mv_X13_whose ⟨by decide, by decide⟩ rfl rfl rfl (Nat.le_of_ble_eq_true rfl) (P_X13_whose X x0 x1 s0 h) (fun v6 h7 => ?_)
  show jv_O X M_X13_freeNumber _ jeI 54 [some (.ref (x0)), some (.int (x1)), none, some (.int (s0)), some (.int (x4))] [.int (v6)] h7 _
  refine jv_iconst (v := (-1)) (jv_dk t_X13_freeNumber (k := 34) rfl) (by decide) ?_
  refine jv_icmp_ne (tgt := 60) (jv_dk t_X13_freeNumber (k := 35) rfl) rfl (fun c8 => ?_) (fun c8 => ?_)
  · refine jv_iinc (v := 1) (L' := [some (.ref (x0)), some (.int (x1)), none, some (.int (s0)), some (.int (x4 + 1))]) (jv_dk t_X13_freeNumber (k := 38) rfl) rfl (by decide) rfl ?_
    refine jv_goto (tgt := 27) (jv_dk t_X13_freeNumber (k := 39) rfl) rfl ?_
    exact hR27 _ _ _ _ _ 
  · show jv_O _ _ _ _ 58 _ _ _ _
    refine jv_iload_n (jv_dk t_X13_freeNumber (k := 36) rfl) rfl rfl ?_
    exact jv_iret (ty := .int) (jv_dk t_X13_freeNumber (k := 37) rfl) rfl rfl rfl
def f_X13_freeNumber_h27 (K27 : jh → Option (Int32 × jh)) (R27 : Nat → Int32 → Int32 → Int32 → jh → Option (Int32 × jh)) (x0 : Nat) (x1 : Int32) (x3 : Int32) (x4 : Int32) (h : jh) : Option (Int32 × jh) :=
  (if 20 < x4 then
  K27  h
  else
  (if ¬ x3 = 20 then
  f_X13_freeNumber_b47 R27 K27 x0 x1 x4 (x3 + 1) h
  else
  f_X13_freeNumber_b47 R27 K27 x0 x1 x4 2 h))
theorem o_f_X13_freeNumber_h27 {X : jx} {b0 : Nat × Nat} {K27 : jh → Option (Int32 × jh)} (hK27 : ∀  (h : jh), jv_O X M_X13_freeNumber b0 jeI 66 [none, none, none, none, none] [] h (K27  h)) : ∀ (x0 : Nat) (x1 : Int32) (x3 : Int32) (x4 : Int32) (h : jh), jv_O X M_X13_freeNumber b0 jeI 27 [some (.ref (x0)), some (.int (x1)), none, some (.int (x3)), some (.int (x4))] [] h (jlp4 (f_X13_freeNumber_h27 K27) jfu x0 x1 x3 x4 h) := by
  refine jlp4_ok (P := fun x0 x1 x3 x4 h o => jv_O X M_X13_freeNumber b0 jeI 27 [some (.ref (x0)), some (.int (x1)), none, some (.int (x3)), some (.int (x4))] [] h o) (fun R27 hR27 => ?_) (fun _ _ _ _ _  => jv_none rfl) jfu
  intro x0 x1 x3 x4 h
  unfold f_X13_freeNumber_h27
  refine jv_iload (jv_dk t_X13_freeNumber (k := 18) rfl) rfl ?_
  refine jv_bipush (v := 20) (jv_dk t_X13_freeNumber (k := 19) rfl) (by decide) ?_
  refine jv_icmp_gt (tgt := 66) (jv_dk t_X13_freeNumber (k := 20) rfl) rfl (fun c4 => ?_) (fun c4 => ?_)
  · refine jv_le_row (jv_le_n (jv_le_n (jv_le_n (jv_le_n (jv_le_n (jv_le_nil)))))) ?_
    exact hK27 _ 
  · show jv_O _ _ _ _ 34 _ _ _ _
    refine jv_iload_n (jv_dk t_X13_freeNumber (k := 21) rfl) rfl rfl ?_
    refine jv_bipush (v := 20) (jv_dk t_X13_freeNumber (k := 22) rfl) (by decide) ?_
    refine jv_icmp_ne (tgt := 44) (jv_dk t_X13_freeNumber (k := 23) rfl) rfl (fun c5 => ?_) (fun c5 => ?_)
    · refine jv_iload_n (jv_dk t_X13_freeNumber (k := 26) rfl) rfl rfl ?_
      refine jv_iconst (v := 1) (jv_dk t_X13_freeNumber (k := 27) rfl) (by decide) ?_
      refine jv_iadd (jv_dk t_X13_freeNumber (k := 28) rfl) ?_
      refine jv_le_row (jv_le_s (jv_le_s (jv_le_n (jv_le_n (jv_le_s (jv_le_nil)))))) ?_
      exact o_f_X13_freeNumber_b47 hR27 hK27 _ _ _ _ _ 
    · show jv_O _ _ _ _ 40 _ _ _ _
      refine jv_iconst (v := 2) (jv_dk t_X13_freeNumber (k := 24) rfl) (by decide) ?_
      refine jv_goto (tgt := 47) (jv_dk t_X13_freeNumber (k := 25) rfl) rfl ?_
      refine jv_le_row (jv_le_s (jv_le_s (jv_le_n (jv_le_n (jv_le_s (jv_le_nil)))))) ?_
      exact o_f_X13_freeNumber_b47 hR27 hK27 _ _ _ _ _ 
def f_X13_freeNumber_b16 (x0 : Nat) (x1 : Int32) (h : jh) : Option (Int32 × jh) :=
  cV h x0 11 (f_X13_spaceOf x0 0 x1 3 h) fun v2 h3 =>
  jlp4 (f_X13_freeNumber_h27 (fun  h9 =>
  some (0, h9))) jfu x0 x1 v2 2 h3
theorem o_f_X13_freeNumber_b16 {X : jx} {b0 : Nat × Nat} (x0 : Nat) (x1 : Int32) (h : jh) : jv_O X M_X13_freeNumber b0 jeI 16 [some (.ref (x0)), some (.int (x1)), none, none, none] [] h (f_X13_freeNumber_b16 x0 x1 h) := by
  unfold f_X13_freeNumber_b16
  refine jv_aload_n (jv_dk t_X13_freeNumber (k := 10) rfl) rfl rfl (Or.inr ⟨_, rfl⟩) ?_
  refine jv_iconst (v := 0) (jv_dk t_X13_freeNumber (k := 11) rfl) (by decide) ?_
  refine jv_iload_n (jv_dk t_X13_freeNumber (k := 12) rfl) rfl rfl ?_
  refine jv_iconst (v := 3) (jv_dk t_X13_freeNumber (k := 13) rfl) (by decide) ?_
  refine jv_callV (en' := jeI) (pv := jpI) (As := [.int (0), .int (x1), .int (3)]) (S := []) (jv_dk t_X13_freeNumber (k := 14) rfl) (fun _ => rfl) (Or.inl lk_X13_217) me_X13_spaceOf mv_X13_spaceOf ⟨by decide, by decide⟩ rfl rfl rfl (Nat.le_of_ble_eq_true rfl) (P_X13_spaceOf X x0 0 x1 3 h) (fun v2 h3 => ?_)
  show jv_O X M_X13_freeNumber _ jeI 23 [some (.ref (x0)), some (.int (x1)), none, none, none] [.int (v2)] h3 _
  refine jv_istore_n (L' := [some (.ref (x0)), some (.int (x1)), none, some (.int (v2)), none]) (jv_dk t_X13_freeNumber (k := 15) rfl) rfl (Nat.le_of_ble_eq_true rfl) rfl ?_
  refine jv_iconst (v := 2) (jv_dk t_X13_freeNumber (k := 16) rfl) (by decide) ?_
  refine jv_istore (L' := [some (.ref (x0)), some (.int (x1)), none, some (.int (v2)), some (.int (2))]) (jv_dk t_X13_freeNumber (k := 17) rfl) (Nat.le_of_ble_eq_true rfl) rfl ?_
  refine o_f_X13_freeNumber_h27 (fun  h9 => ?_) _ _ _ _ _ 
  show jv_O X M_X13_freeNumber _ jeI 66 [none, none, none, none, none] [] h9 _
  refine jv_iconst (v := 0) (jv_dk t_X13_freeNumber (k := 40) rfl) (by decide) ?_
  exact jv_iret (ty := .int) (jv_dk t_X13_freeNumber (k := 41) rfl) rfl rfl rfl
def f_X13_freeNumber (a0 : Nat) (a1 : Int32) (a2 : Int32) (h : jh) : Option (Int32 × jh) :=
  (if a2 = 0 then
  f_X13_freeNumber_b16 a0 a1 h
  else
  cV h a0 11 (f_X13_spaceOf a0 0 a1 5 h) fun v10 h11 =>
  (if ¬ v10 = 0 then
  f_X13_freeNumber_b16 a0 a1 h11
  else
  some (1, h11)))
theorem P_X13_freeNumber (X : jx) (a0 : Nat) (a1 : Int32) (a2 : Int32) (h : jh) : jv_P X M_X13_freeNumber jeI [.ref (a0), .int (a1), .int (a2)] h (f_X13_freeNumber a0 a1 a2 h) := by
  refine jv_P.of (by decide) rfl (by simp [Value.category]) (Nat.le_of_ble_eq_true rfl) ?_
  show jv_O X M_X13_freeNumber (h.1, h.2.1) jeI 0 [some (.ref (a0)), some (.int (a1)), some (.int (a2)), none, none] [] h (f_X13_freeNumber a0 a1 a2 h)
  unfold f_X13_freeNumber
  refine jv_iload_n (jv_dk t_X13_freeNumber (k := 0) rfl) rfl rfl ?_
  refine jv_if_eq (tgt := 16) (jv_dk t_X13_freeNumber (k := 1) rfl) rfl (fun c1 => ?_) (fun c1 => ?_)
  · refine jv_le_row (jv_le_s (jv_le_s (jv_le_n (jv_le_n (jv_le_n (jv_le_nil)))))) ?_
    exact o_f_X13_freeNumber_b16 _ _ _ 
  · show jv_O _ _ _ _ 4 _ _ _ _
    refine jv_aload_n (jv_dk t_X13_freeNumber (k := 2) rfl) rfl rfl (Or.inr ⟨_, rfl⟩) ?_
    refine jv_iconst (v := 0) (jv_dk t_X13_freeNumber (k := 3) rfl) (by decide) ?_
    refine jv_iload_n (jv_dk t_X13_freeNumber (k := 4) rfl) rfl rfl ?_
    refine jv_iconst (v := 5) (jv_dk t_X13_freeNumber (k := 5) rfl) (by decide) ?_
    refine jv_callV (en' := jeI) (pv := jpI) (As := [.int (0), .int (a1), .int (5)]) (S := []) (jv_dk t_X13_freeNumber (k := 6) rfl) (fun _ => rfl) (Or.inl lk_X13_217) me_X13_spaceOf mv_X13_spaceOf ⟨by decide, by decide⟩ rfl rfl rfl (Nat.le_of_ble_eq_true rfl) (P_X13_spaceOf X a0 0 a1 5 h) (fun v10 h11 => ?_)
    show jv_O X M_X13_freeNumber _ jeI 11 [some (.ref (a0)), some (.int (a1)), some (.int (a2)), none, none] [.int (v10)] h11 _
    refine jv_if_ne (tgt := 16) (jv_dk t_X13_freeNumber (k := 7) rfl) rfl (fun c12 => ?_) (fun c12 => ?_)
    · refine jv_le_row (jv_le_s (jv_le_s (jv_le_n (jv_le_n (jv_le_n (jv_le_nil)))))) ?_
      exact o_f_X13_freeNumber_b16 _ _ _ 
    · show jv_O _ _ _ _ 14 _ _ _ _
      refine jv_iconst (v := 1) (jv_dk t_X13_freeNumber (k := 8) rfl) (by decide) ?_
      exact jv_iret (ty := .int) (jv_dk t_X13_freeNumber (k := 9) rfl) rfl rfl rfl
def t0_X13_processAt : List (Nat × Instr × Nat) := [(0, .bipush 8, 2), (2, .iload_n 0, 1), (3, .imul, 1), (4, .iload_n 1, 1), (5, .iadd, 1), (6, .ireturn, 1)]
theorem t_X13_processAt : jv_dec cX13_processAt t0_X13_processAt = true := by decide +kernel
def M_X13_processAt : jm := (yX13_processAt, cX13_processAt, 2, (some .int), 0, 0, [])
def f_X13_processAt (a0 : Int32) (a1 : Int32) (h : jh) : Option (Int32 × jh) :=
  some ((8 * a0) + a1, h)
theorem P_X13_processAt (X : jx) (a0 : Int32) (a1 : Int32) (h : jh) : jv_P X M_X13_processAt jeI [.int (a0), .int (a1)] h (f_X13_processAt a0 a1 h) := by
  refine jv_P.of (by decide) rfl (by simp [Value.category]) (Nat.le_of_ble_eq_true rfl) ?_
  show jv_O X M_X13_processAt (h.1, h.2.1) jeI 0 [some (.int (a0)), some (.int (a1))] [] h (f_X13_processAt a0 a1 h)
  unfold f_X13_processAt
  refine jv_bipush (v := 8) (jv_dk t_X13_processAt (k := 0) rfl) (by decide) ?_
  refine jv_iload_n (jv_dk t_X13_processAt (k := 1) rfl) rfl rfl ?_
  refine jv_imul (jv_dk t_X13_processAt (k := 2) rfl) ?_
  refine jv_iload_n (jv_dk t_X13_processAt (k := 3) rfl) rfl rfl ?_
  refine jv_iadd (jv_dk t_X13_processAt (k := 4) rfl) ?_
  exact jv_iret (ty := .int) (jv_dk t_X13_processAt (k := 5) rfl) rfl rfl rfl
def t0_X13_forkNow : List (Nat × Instr × Nat) := [(0, .aload_n 0, 1), (1, .iload_n 1, 1), (2, .iconst 5, 1), (3, .invokevirtual 205, 3), (6, .istore_n 2, 1), (7, .iconst 0, 1), (8, .istore_n 3, 1), (9, .iload_n 3, 1), (10, .bipush 16, 2), (12, .if_icmp .ge 19, 3), (15, .aload_n 0, 1), (16, .iload_n 3, 1), (17, .iconst 0, 1), (18, .invokevirtual 205, 3), (21, .iconst 1, 1), (22, .if_icmp .ne 9, 3), (25, .iinc 3 1, 3), (28, .goto (-19), 3), (31, .iload_n 3, 1), (32, .bipush 16, 2), (34, .if_icmp .ge 15, 3), (37, .aload_n 0, 1), (38, .iload_n 2, 1), (39, .invokevirtual 241, 3), (42, .ifCond .ne 7, 3), (45, .iconst 1, 1), (46, .goto 4, 3), (49, .iconst 0, 1), (50, .istore 4, 2), (52, .iload_n 2, 1), (53, .istore 5, 2), (55, .iload 5, 2), (57, .iconst (-1), 1), (58, .if_icmp .eq 48, 3), (61, .iload 4, 2), (63, .ifCond .eq 27, 3), (66, .aload_n 0, 1), (67, .iload 5, 2), (69, .iload 5, 2), (71, .iload_n 2, 1), (72, .if_icmp .ne 7, 3), (75, .iconst 1, 1), (76, .goto 4, 3), (79, .iconst 0, 1), (80, .invokevirtual 244, 3), (83, .ifCond .le 7, 3), (86, .iconst 1, 1), (87, .goto 4, 3), (90, .iconst 0, 1), (91, .istore 4, 2), (93, .aload_n 0, 1), (94, .iconst 0, 1), (95, .iload 5, 2), (97, .iconst 0, 1), (98, .invokevirtual 217, 3), (101, .istore 5, 2), (103, .goto (-48), 3), (106, .iload 4, 2), (108, .ifCond .ne 5, 3), (111, .iconst (-1), 1), (112, .ireturn, 1), (113, .iconst 0, 1), (114, .istore 5, 2), (116, .iload 5, 2), (118, .bipush 8, 2), (120, .if_icmp .ge 21, 3), (123, .aload_n 0, 1), (124, .getfield 37, 3), (127, .iload_n 3, 1), (128, .iload 5, 2), (130, .invokestatic 211, 3), (133, .iconst 0, 1), (134, .iastore, 1), (135, .iinc 5 1, 3), (138, .goto (-22), 3), (141, .iload_n 2, 1), (142, .istore 5, 2), (144, .iload 5, 2), (146, .iconst (-1), 1), (147, .if_icmp .eq 69, 3), (150, .aload_n 0, 1), (151, .iload 5, 2), (153, .iload 5, 2), (155, .iload_n 2, 1), (156, .if_icmp .ne 7, 3), (159, .iconst 1, 1), (160, .goto 4, 3), (163, .iconst 0, 1), (164, .invokevirtual 244, 3), (167, .istore 6, 2), (169, .aload_n 0, 1), (170, .getfield 37, 3), (173, .iload_n 3, 1), (174, .iload 5, 2), (176, .invokestatic 211, 3), (179, .iload 6, 2), (181, .iastore, 1), (182, .iload 6, 2), (184, .iconst 1, 1), (185, .if_icmp .le 18, 3), (188, .aload_n 0, 1), (189, .getfield 37, 3), (192, .iconst 0, 1), (193, .iload 5, 2), (195, .invokestatic 99, 3), (198, .iconst 3, 1), (199, .iadd, 1), (200, .iload 6, 2), (202, .iastore, 1), (203, .aload_n 0, 1), (204, .iconst 0, 1), (205, .iload 5, 2), (207, .iconst 0, 1), (208, .invokevirtual 217, 3), (211, .istore 5, 2), (213, .goto (-69), 3), (216, .aload_n 0, 1), (217, .iconst 0, 1), (218, .iload_n 2, 1), (219, .iconst 5, 1), (220, .invokevirtual 217, 3), (223, .ifCond .ne 29, 3), (226, .aload_n 0, 1), (227, .getfield 37, 3), (230, .iconst 0, 1), (231, .iload_n 2, 1), (232, .invokestatic 99, 3), (235, .iconst 5, 1), (236, .iadd, 1), (237, .iconst 1, 1), (238, .iastore, 1), (239, .aload_n 0, 1), (240, .getfield 37, 3), (243, .iconst 0, 1), (244, .iload_n 2, 1), (245, .invokestatic 99, 3), (248, .iconst 4, 1), (249, .iadd, 1), (250, .iload_n 3, 1), (251, .iastore, 1), (252, .iconst 0, 1), (253, .istore 5, 2), (255, .iload 5, 2), (257, .bipush 8, 2), (259, .if_icmp .ge 27, 3), (262, .aload_n 0, 1), (263, .getfield 37, 3), (266, .iload_n 3, 1), (267, .iload 5, 2), (269, .invokestatic 248, 3), (272, .aload_n 0, 1), (273, .iload_n 1, 1), (274, .iload 5, 2), (276, .invokevirtual 205, 3), (279, .iastore, 1), (280, .iinc 5 1, 3), (283, .goto (-28), 3), (286, .aload_n 0, 1), (287, .getfield 37, 3), (290, .iload_n 3, 1), (291, .iconst 1, 1), (292, .invokestatic 248, 3), (295, .iload_n 1, 1), (296, .iastore, 1), (297, .aload_n 0, 1), (298, .getfield 37, 3), (301, .iload_n 3, 1), (302, .iconst 2, 1), (303, .invokestatic 248, 3), (306, .iload_n 2, 1), (307, .iastore, 1), (308, .iload_n 3, 1), (309, .ireturn, 1)]
theorem t_X13_forkNow : jv_dec cX13_forkNow t0_X13_forkNow = true := by decide +kernel
def M_X13_forkNow : jm := (yX13_forkNow, cX13_forkNow, 7, (some .int), 4, 90, [])
theorem lk_X13_244 : Cond.methodLink RX13 244 M_X13_freeNumber.1 ∈ lw_tbl := (jv_at 1570 (by decide +kernel))
set_option maxRecDepth 20000 in
theorem me_X13_freeNumber : jv_me M_X13_freeNumber 2 := ⟨(jv_in6 (List.mem_of_getElem? (i := 213) rfl)), (jv_at 172 (by decide +kernel)), ⟨by decide, by decide⟩, by decide +kernel⟩
theorem mv_X13_freeNumber : jv_mv M_X13_freeNumber := ⟨(jv_at 1572 (by decide +kernel)), (jv_at 112 (by decide +kernel))⟩
theorem lk_X13_248 : Cond.methodLink RX13 248 M_X13_processAt.1 ∈ lw_tbl := (jv_at 1585 (by decide +kernel))
set_option maxRecDepth 20000 in
theorem me_X13_processAt : jv_me M_X13_processAt 2 := ⟨(jv_in6 (List.mem_of_getElem? (i := 227) rfl)), (jv_at 172 (by decide +kernel)), ⟨by decide, by decide⟩, by decide +kernel⟩
theorem ms_X13_processAt : jv_ms M_X13_processAt := (jv_at 1586 (by decide +kernel))
theorem lk_X13_241 : Cond.methodLink RX13 241 M_X13_isDead.1 ∈ lw_tbl := (jv_at 1562 (by decide +kernel))
set_option maxRecDepth 20000 in
theorem me_X13_isDead : jv_me M_X13_isDead 1 := ⟨(jv_in6 (List.mem_of_getElem? (i := 205) rfl)), (jv_at 172 (by decide +kernel)), ⟨by decide, by decide⟩, by decide +kernel⟩
theorem mv_X13_isDead : jv_mv M_X13_isDead := ⟨(jv_at 1564 (by decide +kernel)), (jv_at 110 (by decide +kernel))⟩
def f_X13_forkNow_h9 (K9 : Nat → Int32 → Int32 → Int32 → jh → Option (Int32 × jh)) (R9 : Nat → Int32 → Int32 → Int32 → jh → Option (Int32 × jh)) (x0 : Nat) (x1 : Int32) (x2 : Int32) (x3 : Int32) (h : jh) : Option (Int32 × jh) :=
  (if 16 ≤ x3 then
  K9 x0 x1 x2 x3 h
  else
  cV h x0 11 (f_X13_of x0 x3 0 h) fun v4 h5 =>
  (if ¬ v4 = 1 then
  K9 x0 x1 x2 x3 h5
  else
  R9 x0 x1 x2 (x3 + 1) h5))
theorem o_f_X13_forkNow_h9 {X : jx} {b0 : Nat × Nat} {K9 : Nat → Int32 → Int32 → Int32 → jh → Option (Int32 × jh)} (hK9 : ∀ (x0 : Nat) (x1 : Int32) (x2 : Int32) (x3 : Int32) (h : jh), jv_O X M_X13_forkNow b0 jeI 31 [some (.ref (x0)), some (.int (x1)), some (.int (x2)), some (.int (x3)), none, none, none] [] h (K9 x0 x1 x2 x3 h)) : ∀ (x0 : Nat) (x1 : Int32) (x2 : Int32) (x3 : Int32) (h : jh), jv_O X M_X13_forkNow b0 jeI 9 [some (.ref (x0)), some (.int (x1)), some (.int (x2)), some (.int (x3)), none, none, none] [] h (jlp4 (f_X13_forkNow_h9 K9) jfu x0 x1 x2 x3 h) := by
  refine jlp4_ok (P := fun x0 x1 x2 x3 h o => jv_O X M_X13_forkNow b0 jeI 9 [some (.ref (x0)), some (.int (x1)), some (.int (x2)), some (.int (x3)), none, none, none] [] h o) (fun R9 hR9 => ?_) (fun _ _ _ _ _  => jv_none rfl) jfu
  intro x0 x1 x2 x3 h
  unfold f_X13_forkNow_h9
  refine jv_iload_n (jv_dk t_X13_forkNow (k := 7) rfl) rfl rfl ?_
  refine jv_bipush (v := 16) (jv_dk t_X13_forkNow (k := 8) rfl) (by decide) ?_
  refine jv_icmp_ge (tgt := 31) (jv_dk t_X13_forkNow (k := 9) rfl) rfl (fun c3 => ?_) (fun c3 => ?_)
  · exact hK9 _ _ _ _ _ 
  · show jv_O _ _ _ _ 15 _ _ _ _
    refine jv_aload_n (jv_dk t_X13_forkNow (k := 10) rfl) rfl rfl (Or.inr ⟨_, rfl⟩) ?_
    refine jv_iload_n (jv_dk t_X13_forkNow (k := 11) rfl) rfl rfl ?_
    refine jv_iconst (v := 0) (jv_dk t_X13_forkNow (k := 12) rfl) (by decide) ?_
    refine jv_callV (en' := jeI) (pv := jpI) (As := [.int (x3), .int (0)]) (S := []) (jv_dk t_X13_forkNow (k := 13) rfl) (fun _ => rfl) (Or.inl lk_X13_205) me_X13_of mv_X13_of ⟨by decide, by decide⟩ rfl rfl rfl (Nat.le_of_ble_eq_true rfl) (P_X13_of X x0 x3 0 h) (fun v4 h5 => ?_)
    show jv_O X M_X13_forkNow _ jeI 21 [some (.ref (x0)), some (.int (x1)), some (.int (x2)), some (.int (x3)), none, none, none] [.int (v4)] h5 _
    refine jv_iconst (v := 1) (jv_dk t_X13_forkNow (k := 14) rfl) (by decide) ?_
    refine jv_icmp_ne (tgt := 31) (jv_dk t_X13_forkNow (k := 15) rfl) rfl (fun c6 => ?_) (fun c6 => ?_)
    · exact hK9 _ _ _ _ _ 
    · show jv_O _ _ _ _ 25 _ _ _ _
      refine jv_iinc (v := 1) (L' := [some (.ref (x0)), some (.int (x1)), some (.int (x2)), some (.int (x3 + 1)), none, none, none]) (jv_dk t_X13_forkNow (k := 16) rfl) rfl (by decide) rfl ?_
      refine jv_goto (tgt := 9) (jv_dk t_X13_forkNow (k := 17) rfl) rfl ?_
      exact hR9 _ _ _ _ _ 
def f_X13_forkNow_b91 (R55 : Nat → Int32 → Int32 → Int32 → Int32 → Int32 → jh → Option (Int32 × jh)) (K55 : Nat → Int32 → Int32 → Int32 → Int32 → jh → Option (Int32 × jh)) (x0 : Nat) (x1 : Int32) (x2 : Int32) (x3 : Int32) (x5 : Int32) (s0 : Int32) (h : jh) : Option (Int32 × jh) :=
  cV h x0 11 (f_X13_spaceOf x0 0 x5 0 h) fun v15 h16 =>
  R55 x0 x1 x2 x3 s0 v15 h16
theorem o_f_X13_forkNow_b91 {X : jx} {b0 : Nat × Nat} {R55 : Nat → Int32 → Int32 → Int32 → Int32 → Int32 → jh → Option (Int32 × jh)} {K55 : Nat → Int32 → Int32 → Int32 → Int32 → jh → Option (Int32 × jh)} (hR55 : ∀ (x0 : Nat) (x1 : Int32) (x2 : Int32) (x3 : Int32) (x4 : Int32) (x5 : Int32) (h : jh), jv_O X M_X13_forkNow b0 jeI 55 [some (.ref (x0)), some (.int (x1)), some (.int (x2)), some (.int (x3)), some (.int (x4)), some (.int (x5)), none] [] h (R55 x0 x1 x2 x3 x4 x5 h)) (hK55 : ∀ (x0 : Nat) (x1 : Int32) (x2 : Int32) (x3 : Int32) (x4 : Int32) (h : jh), jv_O X M_X13_forkNow b0 jeI 106 [some (.ref (x0)), some (.int (x1)), some (.int (x2)), some (.int (x3)), some (.int (x4)), none, none] [] h (K55 x0 x1 x2 x3 x4 h)) (x0 : Nat) (x1 : Int32) (x2 : Int32) (x3 : Int32) (x5 : Int32) (s0 : Int32) (h : jh) : jv_O X M_X13_forkNow b0 jeI 91 [some (.ref (x0)), some (.int (x1)), some (.int (x2)), some (.int (x3)), none, some (.int (x5)), none] [.int (s0)] h (f_X13_forkNow_b91 R55 K55 x0 x1 x2 x3 x5 s0 h) := by
  unfold f_X13_forkNow_b91
  refine jv_istore (L' := [some (.ref (x0)), some (.int (x1)), some (.int (x2)), some (.int (x3)), some (.int (s0)), some (.int (x5)), none]) (jv_dk t_X13_forkNow (k := 49) rfl) (Nat.le_of_ble_eq_true rfl) rfl ?_
  refine jv_aload_n (jv_dk t_X13_forkNow (k := 50) rfl) rfl rfl (Or.inr ⟨_, rfl⟩) ?_
  refine jv_iconst (v := 0) (jv_dk t_X13_forkNow (k := 51) rfl) (by decide) ?_
  refine jv_iload (jv_dk t_X13_forkNow (k := 52) rfl) rfl ?_
  refine jv_iconst (v := 0) (jv_dk t_X13_forkNow (k := 53) rfl) (by decide) ?_
  refine jv_callV (en' := jeI) (pv := jpI) (As := [.int (0), .int (x5), .int (0)]) (S := []) (jv_dk t_X13_forkNow (k := 54) rfl) (fun _ => rfl) (Or.inl lk_X13_217) me_X13_spaceOf mv_X13_spaceOf ⟨by decide, by decide⟩ rfl rfl rfl (Nat.le_of_ble_eq_true rfl) (P_X13_spaceOf X x0 0 x5 0 h) (fun v15 h16 => ?_)
  show jv_O X M_X13_forkNow _ jeI 101 [some (.ref (x0)), some (.int (x1)), some (.int (x2)), some (.int (x3)), some (.int (s0)), some (.int (x5)), none] [.int (v15)] h16 _
  refine jv_istore (L' := [some (.ref (x0)), some (.int (x1)), some (.int (x2)), some (.int (x3)), some (.int (s0)), some (.int (v15)), none]) (jv_dk t_X13_forkNow (k := 55) rfl) (Nat.le_of_ble_eq_true rfl) rfl ?_
  refine jv_goto (tgt := 55) (jv_dk t_X13_forkNow (k := 56) rfl) rfl ?_
  exact hR55 _ _ _ _ _ _ _ 
def f_X13_forkNow_b80 (R55 : Nat → Int32 → Int32 → Int32 → Int32 → Int32 → jh → Option (Int32 × jh)) (K55 : Nat → Int32 → Int32 → Int32 → Int32 → jh → Option (Int32 × jh)) (x0 : Nat) (x1 : Int32) (x2 : Int32) (x3 : Int32) (x5 : Int32) (s0 : Int32) (s1 : Int32) (s2 : Nat) (h : jh) : Option (Int32 × jh) :=
  cV h s2 11 (f_X13_freeNumber s2 s1 s0 h) fun v18 h19 =>
  (if v18 ≤ 0 then
  f_X13_forkNow_b91 R55 K55 x0 x1 x2 x3 x5 0 h19
  else
  f_X13_forkNow_b91 R55 K55 x0 x1 x2 x3 x5 1 h19)
theorem o_f_X13_forkNow_b80 {X : jx} {b0 : Nat × Nat} {R55 : Nat → Int32 → Int32 → Int32 → Int32 → Int32 → jh → Option (Int32 × jh)} {K55 : Nat → Int32 → Int32 → Int32 → Int32 → jh → Option (Int32 × jh)} (hR55 : ∀ (x0 : Nat) (x1 : Int32) (x2 : Int32) (x3 : Int32) (x4 : Int32) (x5 : Int32) (h : jh), jv_O X M_X13_forkNow b0 jeI 55 [some (.ref (x0)), some (.int (x1)), some (.int (x2)), some (.int (x3)), some (.int (x4)), some (.int (x5)), none] [] h (R55 x0 x1 x2 x3 x4 x5 h)) (hK55 : ∀ (x0 : Nat) (x1 : Int32) (x2 : Int32) (x3 : Int32) (x4 : Int32) (h : jh), jv_O X M_X13_forkNow b0 jeI 106 [some (.ref (x0)), some (.int (x1)), some (.int (x2)), some (.int (x3)), some (.int (x4)), none, none] [] h (K55 x0 x1 x2 x3 x4 h)) (x0 : Nat) (x1 : Int32) (x2 : Int32) (x3 : Int32) (x5 : Int32) (s0 : Int32) (s1 : Int32) (s2 : Nat) (h : jh) : jv_O X M_X13_forkNow b0 jeI 80 [some (.ref (x0)), some (.int (x1)), some (.int (x2)), some (.int (x3)), none, some (.int (x5)), none] [.int (s0), .int (s1), .ref (s2)] h (f_X13_forkNow_b80 R55 K55 x0 x1 x2 x3 x5 s0 s1 s2 h) := by
  unfold f_X13_forkNow_b80
  refine jv_callV (en' := jeI) (pv := jpI) (As := [.int (s1), .int (s0)]) (S := []) (jv_dk t_X13_forkNow (k := 44) rfl) (fun _ => rfl) (Or.inl lk_X13_244) me_X13_freeNumber mv_X13_freeNumber ⟨by decide, by decide⟩ rfl rfl rfl (Nat.le_of_ble_eq_true rfl) (P_X13_freeNumber X s2 s1 s0 h) (fun v18 h19 => ?_)
  show jv_O X M_X13_forkNow _ jeI 83 [some (.ref (x0)), some (.int (x1)), some (.int (x2)), some (.int (x3)), none, some (.int (x5)), none] [.int (v18)] h19 _
  refine jv_if_le (tgt := 90) (jv_dk t_X13_forkNow (k := 45) rfl) rfl (fun c20 => ?_) (fun c20 => ?_)
  · refine jv_iconst (v := 0) (jv_dk t_X13_forkNow (k := 48) rfl) (by decide) ?_
    exact o_f_X13_forkNow_b91 hR55 hK55 _ _ _ _ _ _ _ 
  · show jv_O _ _ _ _ 86 _ _ _ _
    refine jv_iconst (v := 1) (jv_dk t_X13_forkNow (k := 46) rfl) (by decide) ?_
    refine jv_goto (tgt := 91) (jv_dk t_X13_forkNow (k := 47) rfl) rfl ?_
    exact o_f_X13_forkNow_b91 hR55 hK55 _ _ _ _ _ _ _ 
def f_X13_forkNow_h55 (K55 : Nat → Int32 → Int32 → Int32 → Int32 → jh → Option (Int32 × jh)) (R55 : Nat → Int32 → Int32 → Int32 → Int32 → Int32 → jh → Option (Int32 × jh)) (x0 : Nat) (x1 : Int32) (x2 : Int32) (x3 : Int32) (x4 : Int32) (x5 : Int32) (h : jh) : Option (Int32 × jh) :=
  (if x5 = (-1) then
  K55 x0 x1 x2 x3 x4 h
  else
  (if x4 = 0 then
  f_X13_forkNow_b91 R55 K55 x0 x1 x2 x3 x5 0 h
  else
  (if ¬ x5 = x2 then
  f_X13_forkNow_b80 R55 K55 x0 x1 x2 x3 x5 0 x5 x0 h
  else
  f_X13_forkNow_b80 R55 K55 x0 x1 x2 x3 x5 1 x5 x0 h)))
theorem o_f_X13_forkNow_h55 {X : jx} {b0 : Nat × Nat} {K55 : Nat → Int32 → Int32 → Int32 → Int32 → jh → Option (Int32 × jh)} (hK55 : ∀ (x0 : Nat) (x1 : Int32) (x2 : Int32) (x3 : Int32) (x4 : Int32) (h : jh), jv_O X M_X13_forkNow b0 jeI 106 [some (.ref (x0)), some (.int (x1)), some (.int (x2)), some (.int (x3)), some (.int (x4)), none, none] [] h (K55 x0 x1 x2 x3 x4 h)) : ∀ (x0 : Nat) (x1 : Int32) (x2 : Int32) (x3 : Int32) (x4 : Int32) (x5 : Int32) (h : jh), jv_O X M_X13_forkNow b0 jeI 55 [some (.ref (x0)), some (.int (x1)), some (.int (x2)), some (.int (x3)), some (.int (x4)), some (.int (x5)), none] [] h (jlp6 (f_X13_forkNow_h55 K55) jfu x0 x1 x2 x3 x4 x5 h) := by
  refine jlp6_ok (P := fun x0 x1 x2 x3 x4 x5 h o => jv_O X M_X13_forkNow b0 jeI 55 [some (.ref (x0)), some (.int (x1)), some (.int (x2)), some (.int (x3)), some (.int (x4)), some (.int (x5)), none] [] h o) (fun R55 hR55 => ?_) (fun _ _ _ _ _ _ _  => jv_none rfl) jfu
  intro x0 x1 x2 x3 x4 x5 h
  unfold f_X13_forkNow_h55
  refine jv_iload (jv_dk t_X13_forkNow (k := 31) rfl) rfl ?_
  refine jv_iconst (v := (-1)) (jv_dk t_X13_forkNow (k := 32) rfl) (by decide) ?_
  refine jv_icmp_eq (tgt := 106) (jv_dk t_X13_forkNow (k := 33) rfl) rfl (fun c13 => ?_) (fun c13 => ?_)
  · refine jv_le_row (jv_le_s (jv_le_s (jv_le_s (jv_le_s (jv_le_s (jv_le_n (jv_le_n (jv_le_nil)))))))) ?_
    exact hK55 _ _ _ _ _ _ 
  · show jv_O _ _ _ _ 61 _ _ _ _
    refine jv_iload (jv_dk t_X13_forkNow (k := 34) rfl) rfl ?_
    refine jv_if_eq (tgt := 90) (jv_dk t_X13_forkNow (k := 35) rfl) rfl (fun c14 => ?_) (fun c14 => ?_)
    · refine jv_iconst (v := 0) (jv_dk t_X13_forkNow (k := 48) rfl) (by decide) ?_
      refine jv_le_row (jv_le_s (jv_le_s (jv_le_s (jv_le_s (jv_le_n (jv_le_s (jv_le_n (jv_le_nil)))))))) ?_
      exact o_f_X13_forkNow_b91 hR55 hK55 _ _ _ _ _ _ _ 
    · show jv_O _ _ _ _ 66 _ _ _ _
      refine jv_aload_n (jv_dk t_X13_forkNow (k := 36) rfl) rfl rfl (Or.inr ⟨_, rfl⟩) ?_
      refine jv_iload (jv_dk t_X13_forkNow (k := 37) rfl) rfl ?_
      refine jv_iload (jv_dk t_X13_forkNow (k := 38) rfl) rfl ?_
      refine jv_iload_n (jv_dk t_X13_forkNow (k := 39) rfl) rfl rfl ?_
      refine jv_icmp_ne (tgt := 79) (jv_dk t_X13_forkNow (k := 40) rfl) rfl (fun c17 => ?_) (fun c17 => ?_)
      · refine jv_iconst (v := 0) (jv_dk t_X13_forkNow (k := 43) rfl) (by decide) ?_
        refine jv_le_row (jv_le_s (jv_le_s (jv_le_s (jv_le_s (jv_le_n (jv_le_s (jv_le_n (jv_le_nil)))))))) ?_
        exact o_f_X13_forkNow_b80 hR55 hK55 _ _ _ _ _ _ _ _ _ 
      · show jv_O _ _ _ _ 75 _ _ _ _
        refine jv_iconst (v := 1) (jv_dk t_X13_forkNow (k := 41) rfl) (by decide) ?_
        refine jv_goto (tgt := 80) (jv_dk t_X13_forkNow (k := 42) rfl) rfl ?_
        refine jv_le_row (jv_le_s (jv_le_s (jv_le_s (jv_le_s (jv_le_n (jv_le_s (jv_le_n (jv_le_nil)))))))) ?_
        exact o_f_X13_forkNow_b80 hR55 hK55 _ _ _ _ _ _ _ _ _ 
def f_X13_forkNow_h116 (K116 : Nat → Int32 → Int32 → Int32 → jh → Option (Int32 × jh)) (R116 : Nat → Int32 → Int32 → Int32 → Int32 → jh → Option (Int32 × jh)) (x0 : Nat) (x1 : Int32) (x2 : Int32) (x3 : Int32) (x5 : Int32) (h : jh) : Option (Int32 × jh) :=
  (if 8 ≤ x5 then
  K116 x0 x1 x2 x3 h
  else
  gR h x0 11 2 fun v29 =>
  bd (f_X13_numberAt x3 x5 h) fun v30 h31 =>
  sI h31 v29 v30 0 fun h32 =>
  R116 x0 x1 x2 x3 (x5 + 1) h32)
theorem o_f_X13_forkNow_h116 {X : jx} {b0 : Nat × Nat} {K116 : Nat → Int32 → Int32 → Int32 → jh → Option (Int32 × jh)} (hK116 : ∀ (x0 : Nat) (x1 : Int32) (x2 : Int32) (x3 : Int32) (h : jh), jv_O X M_X13_forkNow b0 jeI 141 [some (.ref (x0)), some (.int (x1)), some (.int (x2)), some (.int (x3)), none, none, none] [] h (K116 x0 x1 x2 x3 h)) : ∀ (x0 : Nat) (x1 : Int32) (x2 : Int32) (x3 : Int32) (x5 : Int32) (h : jh), jv_O X M_X13_forkNow b0 jeI 116 [some (.ref (x0)), some (.int (x1)), some (.int (x2)), some (.int (x3)), none, some (.int (x5)), none] [] h (jlp5 (f_X13_forkNow_h116 K116) jfu x0 x1 x2 x3 x5 h) := by
  refine jlp5_ok (P := fun x0 x1 x2 x3 x5 h o => jv_O X M_X13_forkNow b0 jeI 116 [some (.ref (x0)), some (.int (x1)), some (.int (x2)), some (.int (x3)), none, some (.int (x5)), none] [] h o) (fun R116 hR116 => ?_) (fun _ _ _ _ _ _  => jv_none rfl) jfu
  intro x0 x1 x2 x3 x5 h
  unfold f_X13_forkNow_h116
  refine jv_iload (jv_dk t_X13_forkNow (k := 63) rfl) rfl ?_
  refine jv_bipush (v := 8) (jv_dk t_X13_forkNow (k := 64) rfl) (by decide) ?_
  refine jv_icmp_ge (tgt := 141) (jv_dk t_X13_forkNow (k := 65) rfl) rfl (fun c28 => ?_) (fun c28 => ?_)
  · refine jv_le_row (jv_le_s (jv_le_s (jv_le_s (jv_le_s (jv_le_n (jv_le_n (jv_le_n (jv_le_nil)))))))) ?_
    exact hK116 _ _ _ _ _ 
  · show jv_O _ _ _ _ 123 _ _ _ _
    refine jv_aload_n (jv_dk t_X13_forkNow (k := 66) rfl) rfl rfl (Or.inr ⟨_, rfl⟩) ?_
    refine jv_gR (jv_dk t_X13_forkNow (k := 67) rfl) fl_X13_37 (fun v29 => ?_)
    refine jv_iload_n (jv_dk t_X13_forkNow (k := 68) rfl) rfl rfl ?_
    refine jv_iload (jv_dk t_X13_forkNow (k := 69) rfl) rfl ?_
    refine jv_callS (en' := jeI) (pv := jpI) (As := [.int (x3), .int (x5)]) (S := [.ref (v29)]) (jv_dk t_X13_forkNow (k := 70) rfl) (fun _ => rfl) (Or.inl lk_X13_211) me_X13_numberAt ms_X13_numberAt ⟨by decide, by decide⟩ rfl rfl (Nat.le_of_ble_eq_true rfl) (P_X13_numberAt X x3 x5 h) (fun v30 h31 => ?_)
    show jv_O X M_X13_forkNow _ jeI 133 [some (.ref (x0)), some (.int (x1)), some (.int (x2)), some (.int (x3)), none, some (.int (x5)), none] [.int (v30), .ref (v29)] h31 _
    refine jv_iconst (v := 0) (jv_dk t_X13_forkNow (k := 71) rfl) (by decide) ?_
    refine jv_iastore (jv_dk t_X13_forkNow (k := 72) rfl) (fun h32 => ?_)
    refine jv_iinc (v := 1) (L' := [some (.ref (x0)), some (.int (x1)), some (.int (x2)), some (.int (x3)), none, some (.int (x5 + 1)), none]) (jv_dk t_X13_forkNow (k := 73) rfl) rfl (by decide) rfl ?_
    refine jv_goto (tgt := 116) (jv_dk t_X13_forkNow (k := 74) rfl) rfl ?_
    exact hR116 _ _ _ _ _ _ 
def f_X13_forkNow_b203 (R144 : Nat → Int32 → Int32 → Int32 → Int32 → jh → Option (Int32 × jh)) (K144 : Nat → Int32 → Int32 → Int32 → jh → Option (Int32 × jh)) (x0 : Nat) (x1 : Int32) (x2 : Int32) (x3 : Int32) (x5 : Int32) (h : jh) : Option (Int32 × jh) :=
  cV h x0 11 (f_X13_spaceOf x0 0 x5 0 h) fun v47 h48 =>
  R144 x0 x1 x2 x3 v47 h48
theorem o_f_X13_forkNow_b203 {X : jx} {b0 : Nat × Nat} {R144 : Nat → Int32 → Int32 → Int32 → Int32 → jh → Option (Int32 × jh)} {K144 : Nat → Int32 → Int32 → Int32 → jh → Option (Int32 × jh)} (hR144 : ∀ (x0 : Nat) (x1 : Int32) (x2 : Int32) (x3 : Int32) (x5 : Int32) (h : jh), jv_O X M_X13_forkNow b0 jeI 144 [some (.ref (x0)), some (.int (x1)), some (.int (x2)), some (.int (x3)), none, some (.int (x5)), none] [] h (R144 x0 x1 x2 x3 x5 h)) (hK144 : ∀ (x0 : Nat) (x1 : Int32) (x2 : Int32) (x3 : Int32) (h : jh), jv_O X M_X13_forkNow b0 jeI 216 [some (.ref (x0)), some (.int (x1)), some (.int (x2)), some (.int (x3)), none, none, none] [] h (K144 x0 x1 x2 x3 h)) (x0 : Nat) (x1 : Int32) (x2 : Int32) (x3 : Int32) (x5 : Int32) (h : jh) : jv_O X M_X13_forkNow b0 jeI 203 [some (.ref (x0)), some (.int (x1)), some (.int (x2)), some (.int (x3)), none, some (.int (x5)), none] [] h (f_X13_forkNow_b203 R144 K144 x0 x1 x2 x3 x5 h) := by
  unfold f_X13_forkNow_b203
  refine jv_aload_n (jv_dk t_X13_forkNow (k := 109) rfl) rfl rfl (Or.inr ⟨_, rfl⟩) ?_
  refine jv_iconst (v := 0) (jv_dk t_X13_forkNow (k := 110) rfl) (by decide) ?_
  refine jv_iload (jv_dk t_X13_forkNow (k := 111) rfl) rfl ?_
  refine jv_iconst (v := 0) (jv_dk t_X13_forkNow (k := 112) rfl) (by decide) ?_
  refine jv_callV (en' := jeI) (pv := jpI) (As := [.int (0), .int (x5), .int (0)]) (S := []) (jv_dk t_X13_forkNow (k := 113) rfl) (fun _ => rfl) (Or.inl lk_X13_217) me_X13_spaceOf mv_X13_spaceOf ⟨by decide, by decide⟩ rfl rfl rfl (Nat.le_of_ble_eq_true rfl) (P_X13_spaceOf X x0 0 x5 0 h) (fun v47 h48 => ?_)
  show jv_O X M_X13_forkNow _ jeI 211 [some (.ref (x0)), some (.int (x1)), some (.int (x2)), some (.int (x3)), none, some (.int (x5)), none] [.int (v47)] h48 _
  refine jv_istore (L' := [some (.ref (x0)), some (.int (x1)), some (.int (x2)), some (.int (x3)), none, some (.int (v47)), none]) (jv_dk t_X13_forkNow (k := 114) rfl) (Nat.le_of_ble_eq_true rfl) rfl ?_
  refine jv_goto (tgt := 144) (jv_dk t_X13_forkNow (k := 115) rfl) rfl ?_
  exact hR144 _ _ _ _ _ _ 
def f_X13_forkNow_b164 (R144 : Nat → Int32 → Int32 → Int32 → Int32 → jh → Option (Int32 × jh)) (K144 : Nat → Int32 → Int32 → Int32 → jh → Option (Int32 × jh)) (x0 : Nat) (x1 : Int32) (x2 : Int32) (x3 : Int32) (x5 : Int32) (s0 : Int32) (s1 : Int32) (s2 : Nat) (h : jh) : Option (Int32 × jh) :=
  cV h s2 11 (f_X13_freeNumber s2 s1 s0 h) fun v40 h41 =>
  gR h41 x0 11 2 fun v42 =>
  bd (f_X13_numberAt x3 x5 h41) fun v43 h44 =>
  sI h44 v42 v43 v40 fun h45 =>
  (if v40 ≤ 1 then
  f_X13_forkNow_b203 R144 K144 x0 x1 x2 x3 x5 h45
  else
  gR h45 x0 11 2 fun v49 =>
  bd (f_X13_spaceAt 0 x5 h45) fun v50 h51 =>
  sI h51 v49 (v50 + 3) v40 fun h52 =>
  f_X13_forkNow_b203 R144 K144 x0 x1 x2 x3 x5 h52)
theorem o_f_X13_forkNow_b164 {X : jx} {b0 : Nat × Nat} {R144 : Nat → Int32 → Int32 → Int32 → Int32 → jh → Option (Int32 × jh)} {K144 : Nat → Int32 → Int32 → Int32 → jh → Option (Int32 × jh)} (hR144 : ∀ (x0 : Nat) (x1 : Int32) (x2 : Int32) (x3 : Int32) (x5 : Int32) (h : jh), jv_O X M_X13_forkNow b0 jeI 144 [some (.ref (x0)), some (.int (x1)), some (.int (x2)), some (.int (x3)), none, some (.int (x5)), none] [] h (R144 x0 x1 x2 x3 x5 h)) (hK144 : ∀ (x0 : Nat) (x1 : Int32) (x2 : Int32) (x3 : Int32) (h : jh), jv_O X M_X13_forkNow b0 jeI 216 [some (.ref (x0)), some (.int (x1)), some (.int (x2)), some (.int (x3)), none, none, none] [] h (K144 x0 x1 x2 x3 h)) (x0 : Nat) (x1 : Int32) (x2 : Int32) (x3 : Int32) (x5 : Int32) (s0 : Int32) (s1 : Int32) (s2 : Nat) (h : jh) : jv_O X M_X13_forkNow b0 jeI 164 [some (.ref (x0)), some (.int (x1)), some (.int (x2)), some (.int (x3)), none, some (.int (x5)), none] [.int (s0), .int (s1), .ref (s2)] h (f_X13_forkNow_b164 R144 K144 x0 x1 x2 x3 x5 s0 s1 s2 h) := by
  unfold f_X13_forkNow_b164
  refine jv_callV (en' := jeI) (pv := jpI) (As := [.int (s1), .int (s0)]) (S := []) (jv_dk t_X13_forkNow (k := 88) rfl) (fun _ => rfl) (Or.inl lk_X13_244) me_X13_freeNumber mv_X13_freeNumber ⟨by decide, by decide⟩ rfl rfl rfl (Nat.le_of_ble_eq_true rfl) (P_X13_freeNumber X s2 s1 s0 h) (fun v40 h41 => ?_)
  show jv_O X M_X13_forkNow _ jeI 167 [some (.ref (x0)), some (.int (x1)), some (.int (x2)), some (.int (x3)), none, some (.int (x5)), none] [.int (v40)] h41 _
  refine jv_istore (L' := [some (.ref (x0)), some (.int (x1)), some (.int (x2)), some (.int (x3)), none, some (.int (x5)), some (.int (v40))]) (jv_dk t_X13_forkNow (k := 89) rfl) (Nat.le_of_ble_eq_true rfl) rfl ?_
  refine jv_aload_n (jv_dk t_X13_forkNow (k := 90) rfl) rfl rfl (Or.inr ⟨_, rfl⟩) ?_
  refine jv_gR (jv_dk t_X13_forkNow (k := 91) rfl) fl_X13_37 (fun v42 => ?_)
  refine jv_iload_n (jv_dk t_X13_forkNow (k := 92) rfl) rfl rfl ?_
  refine jv_iload (jv_dk t_X13_forkNow (k := 93) rfl) rfl ?_
  refine jv_callS (en' := jeI) (pv := jpI) (As := [.int (x3), .int (x5)]) (S := [.ref (v42)]) (jv_dk t_X13_forkNow (k := 94) rfl) (fun _ => rfl) (Or.inl lk_X13_211) me_X13_numberAt ms_X13_numberAt ⟨by decide, by decide⟩ rfl rfl (Nat.le_of_ble_eq_true rfl) (P_X13_numberAt X x3 x5 h41) (fun v43 h44 => ?_)
  show jv_O X M_X13_forkNow _ jeI 179 [some (.ref (x0)), some (.int (x1)), some (.int (x2)), some (.int (x3)), none, some (.int (x5)), some (.int (v40))] [.int (v43), .ref (v42)] h44 _
  refine jv_iload (jv_dk t_X13_forkNow (k := 95) rfl) rfl ?_
  refine jv_iastore (jv_dk t_X13_forkNow (k := 96) rfl) (fun h45 => ?_)
  refine jv_iload (jv_dk t_X13_forkNow (k := 97) rfl) rfl ?_
  refine jv_iconst (v := 1) (jv_dk t_X13_forkNow (k := 98) rfl) (by decide) ?_
  refine jv_icmp_le (tgt := 203) (jv_dk t_X13_forkNow (k := 99) rfl) rfl (fun c46 => ?_) (fun c46 => ?_)
  · refine jv_le_row (jv_le_s (jv_le_s (jv_le_s (jv_le_s (jv_le_n (jv_le_s (jv_le_n (jv_le_nil)))))))) ?_
    exact o_f_X13_forkNow_b203 hR144 hK144 _ _ _ _ _ _ 
  · show jv_O _ _ _ _ 188 _ _ _ _
    refine jv_aload_n (jv_dk t_X13_forkNow (k := 100) rfl) rfl rfl (Or.inr ⟨_, rfl⟩) ?_
    refine jv_gR (jv_dk t_X13_forkNow (k := 101) rfl) fl_X13_37 (fun v49 => ?_)
    refine jv_iconst (v := 0) (jv_dk t_X13_forkNow (k := 102) rfl) (by decide) ?_
    refine jv_iload (jv_dk t_X13_forkNow (k := 103) rfl) rfl ?_
    refine jv_callS (en' := jeI) (pv := jpI) (As := [.int (0), .int (x5)]) (S := [.ref (v49)]) (jv_dk t_X13_forkNow (k := 104) rfl) (fun _ => rfl) (Or.inl lk_X13_99) me_X13_spaceAt ms_X13_spaceAt ⟨by decide, by decide⟩ rfl rfl (Nat.le_of_ble_eq_true rfl) (P_X13_spaceAt X 0 x5 h45) (fun v50 h51 => ?_)
    show jv_O X M_X13_forkNow _ jeI 198 [some (.ref (x0)), some (.int (x1)), some (.int (x2)), some (.int (x3)), none, some (.int (x5)), some (.int (v40))] [.int (v50), .ref (v49)] h51 _
    refine jv_iconst (v := 3) (jv_dk t_X13_forkNow (k := 105) rfl) (by decide) ?_
    refine jv_iadd (jv_dk t_X13_forkNow (k := 106) rfl) ?_
    refine jv_iload (jv_dk t_X13_forkNow (k := 107) rfl) rfl ?_
    refine jv_iastore (jv_dk t_X13_forkNow (k := 108) rfl) (fun h52 => ?_)
    refine jv_le_row (jv_le_s (jv_le_s (jv_le_s (jv_le_s (jv_le_n (jv_le_s (jv_le_n (jv_le_nil)))))))) ?_
    exact o_f_X13_forkNow_b203 hR144 hK144 _ _ _ _ _ _ 
def f_X13_forkNow_h144 (K144 : Nat → Int32 → Int32 → Int32 → jh → Option (Int32 × jh)) (R144 : Nat → Int32 → Int32 → Int32 → Int32 → jh → Option (Int32 × jh)) (x0 : Nat) (x1 : Int32) (x2 : Int32) (x3 : Int32) (x5 : Int32) (h : jh) : Option (Int32 × jh) :=
  (if x5 = (-1) then
  K144 x0 x1 x2 x3 h
  else
  (if ¬ x5 = x2 then
  f_X13_forkNow_b164 R144 K144 x0 x1 x2 x3 x5 0 x5 x0 h
  else
  f_X13_forkNow_b164 R144 K144 x0 x1 x2 x3 x5 1 x5 x0 h))
theorem o_f_X13_forkNow_h144 {X : jx} {b0 : Nat × Nat} {K144 : Nat → Int32 → Int32 → Int32 → jh → Option (Int32 × jh)} (hK144 : ∀ (x0 : Nat) (x1 : Int32) (x2 : Int32) (x3 : Int32) (h : jh), jv_O X M_X13_forkNow b0 jeI 216 [some (.ref (x0)), some (.int (x1)), some (.int (x2)), some (.int (x3)), none, none, none] [] h (K144 x0 x1 x2 x3 h)) : ∀ (x0 : Nat) (x1 : Int32) (x2 : Int32) (x3 : Int32) (x5 : Int32) (h : jh), jv_O X M_X13_forkNow b0 jeI 144 [some (.ref (x0)), some (.int (x1)), some (.int (x2)), some (.int (x3)), none, some (.int (x5)), none] [] h (jlp5 (f_X13_forkNow_h144 K144) jfu x0 x1 x2 x3 x5 h) := by
  refine jlp5_ok (P := fun x0 x1 x2 x3 x5 h o => jv_O X M_X13_forkNow b0 jeI 144 [some (.ref (x0)), some (.int (x1)), some (.int (x2)), some (.int (x3)), none, some (.int (x5)), none] [] h o) (fun R144 hR144 => ?_) (fun _ _ _ _ _ _  => jv_none rfl) jfu
  intro x0 x1 x2 x3 x5 h
  unfold f_X13_forkNow_h144
  refine jv_iload (jv_dk t_X13_forkNow (k := 77) rfl) rfl ?_
  refine jv_iconst (v := (-1)) (jv_dk t_X13_forkNow (k := 78) rfl) (by decide) ?_
  refine jv_icmp_eq (tgt := 216) (jv_dk t_X13_forkNow (k := 79) rfl) rfl (fun c38 => ?_) (fun c38 => ?_)
  · refine jv_le_row (jv_le_s (jv_le_s (jv_le_s (jv_le_s (jv_le_n (jv_le_n (jv_le_n (jv_le_nil)))))))) ?_
    exact hK144 _ _ _ _ _ 
  · show jv_O _ _ _ _ 150 _ _ _ _
    refine jv_aload_n (jv_dk t_X13_forkNow (k := 80) rfl) rfl rfl (Or.inr ⟨_, rfl⟩) ?_
    refine jv_iload (jv_dk t_X13_forkNow (k := 81) rfl) rfl ?_
    refine jv_iload (jv_dk t_X13_forkNow (k := 82) rfl) rfl ?_
    refine jv_iload_n (jv_dk t_X13_forkNow (k := 83) rfl) rfl rfl ?_
    refine jv_icmp_ne (tgt := 163) (jv_dk t_X13_forkNow (k := 84) rfl) rfl (fun c39 => ?_) (fun c39 => ?_)
    · refine jv_iconst (v := 0) (jv_dk t_X13_forkNow (k := 87) rfl) (by decide) ?_
      exact o_f_X13_forkNow_b164 hR144 hK144 _ _ _ _ _ _ _ _ _ 
    · show jv_O _ _ _ _ 159 _ _ _ _
      refine jv_iconst (v := 1) (jv_dk t_X13_forkNow (k := 85) rfl) (by decide) ?_
      refine jv_goto (tgt := 164) (jv_dk t_X13_forkNow (k := 86) rfl) rfl ?_
      exact o_f_X13_forkNow_b164 hR144 hK144 _ _ _ _ _ _ _ _ _ 
def f_X13_forkNow_h255 (K255 : Nat → Int32 → Int32 → Int32 → jh → Option (Int32 × jh)) (R255 : Nat → Int32 → Int32 → Int32 → Int32 → jh → Option (Int32 × jh)) (x0 : Nat) (x1 : Int32) (x2 : Int32) (x3 : Int32) (x5 : Int32) (h : jh) : Option (Int32 × jh) :=
  (if 8 ≤ x5 then
  K255 x0 x1 x2 x3 h
  else
  gR h x0 11 2 fun v62 =>
  bd (f_X13_processAt x3 x5 h) fun v63 h64 =>
  cV h64 x0 11 (f_X13_of x0 x1 x5 h64) fun v65 h66 =>
  sI h66 v62 v63 v65 fun h67 =>
  R255 x0 x1 x2 x3 (x5 + 1) h67)
theorem o_f_X13_forkNow_h255 {X : jx} {b0 : Nat × Nat} {K255 : Nat → Int32 → Int32 → Int32 → jh → Option (Int32 × jh)} (hK255 : ∀ (x0 : Nat) (x1 : Int32) (x2 : Int32) (x3 : Int32) (h : jh), jv_O X M_X13_forkNow b0 jeI 286 [some (.ref (x0)), some (.int (x1)), some (.int (x2)), some (.int (x3)), none, none, none] [] h (K255 x0 x1 x2 x3 h)) : ∀ (x0 : Nat) (x1 : Int32) (x2 : Int32) (x3 : Int32) (x5 : Int32) (h : jh), jv_O X M_X13_forkNow b0 jeI 255 [some (.ref (x0)), some (.int (x1)), some (.int (x2)), some (.int (x3)), none, some (.int (x5)), none] [] h (jlp5 (f_X13_forkNow_h255 K255) jfu x0 x1 x2 x3 x5 h) := by
  refine jlp5_ok (P := fun x0 x1 x2 x3 x5 h o => jv_O X M_X13_forkNow b0 jeI 255 [some (.ref (x0)), some (.int (x1)), some (.int (x2)), some (.int (x3)), none, some (.int (x5)), none] [] h o) (fun R255 hR255 => ?_) (fun _ _ _ _ _ _  => jv_none rfl) jfu
  intro x0 x1 x2 x3 x5 h
  unfold f_X13_forkNow_h255
  refine jv_iload (jv_dk t_X13_forkNow (k := 142) rfl) rfl ?_
  refine jv_bipush (v := 8) (jv_dk t_X13_forkNow (k := 143) rfl) (by decide) ?_
  refine jv_icmp_ge (tgt := 286) (jv_dk t_X13_forkNow (k := 144) rfl) rfl (fun c61 => ?_) (fun c61 => ?_)
  · refine jv_le_row (jv_le_s (jv_le_s (jv_le_s (jv_le_s (jv_le_n (jv_le_n (jv_le_n (jv_le_nil)))))))) ?_
    exact hK255 _ _ _ _ _ 
  · show jv_O _ _ _ _ 262 _ _ _ _
    refine jv_aload_n (jv_dk t_X13_forkNow (k := 145) rfl) rfl rfl (Or.inr ⟨_, rfl⟩) ?_
    refine jv_gR (jv_dk t_X13_forkNow (k := 146) rfl) fl_X13_37 (fun v62 => ?_)
    refine jv_iload_n (jv_dk t_X13_forkNow (k := 147) rfl) rfl rfl ?_
    refine jv_iload (jv_dk t_X13_forkNow (k := 148) rfl) rfl ?_
    refine jv_callS (en' := jeI) (pv := jpI) (As := [.int (x3), .int (x5)]) (S := [.ref (v62)]) (jv_dk t_X13_forkNow (k := 149) rfl) (fun _ => rfl) (Or.inl lk_X13_248) me_X13_processAt ms_X13_processAt ⟨by decide, by decide⟩ rfl rfl (Nat.le_of_ble_eq_true rfl) (P_X13_processAt X x3 x5 h) (fun v63 h64 => ?_)
    show jv_O X M_X13_forkNow _ jeI 272 [some (.ref (x0)), some (.int (x1)), some (.int (x2)), some (.int (x3)), none, some (.int (x5)), none] [.int (v63), .ref (v62)] h64 _
    refine jv_aload_n (jv_dk t_X13_forkNow (k := 150) rfl) rfl rfl (Or.inr ⟨_, rfl⟩) ?_
    refine jv_iload_n (jv_dk t_X13_forkNow (k := 151) rfl) rfl rfl ?_
    refine jv_iload (jv_dk t_X13_forkNow (k := 152) rfl) rfl ?_
    refine jv_callV (en' := jeI) (pv := jpI) (As := [.int (x1), .int (x5)]) (S := [.int (v63), .ref (v62)]) (jv_dk t_X13_forkNow (k := 153) rfl) (fun _ => rfl) (Or.inl lk_X13_205) me_X13_of mv_X13_of ⟨by decide, by decide⟩ rfl rfl rfl (Nat.le_of_ble_eq_true rfl) (P_X13_of X x0 x1 x5 h64) (fun v65 h66 => ?_)
    show jv_O X M_X13_forkNow _ jeI 279 [some (.ref (x0)), some (.int (x1)), some (.int (x2)), some (.int (x3)), none, some (.int (x5)), none] [.int (v65), .int (v63), .ref (v62)] h66 _
    refine jv_iastore (jv_dk t_X13_forkNow (k := 154) rfl) (fun h67 => ?_)
    refine jv_iinc (v := 1) (L' := [some (.ref (x0)), some (.int (x1)), some (.int (x2)), some (.int (x3)), none, some (.int (x5 + 1)), none]) (jv_dk t_X13_forkNow (k := 155) rfl) rfl (by decide) rfl ?_
    refine jv_goto (tgt := 255) (jv_dk t_X13_forkNow (k := 156) rfl) rfl ?_
    exact hR255 _ _ _ _ _ _ 
def f_X13_forkNow_b31 (x0 : Nat) (x1 : Int32) (x2 : Int32) (x3 : Int32) (h : jh) : Option (Int32 × jh) :=
  (if 16 ≤ x3 then
  jlp6 (f_X13_forkNow_h55 (fun y22 y23 y24 y25 y26 h21 =>
  (if ¬ y26 = 0 then
  jlp5 (f_X13_forkNow_h116 (fun y34 y35 y36 y37 h33 =>
  jlp5 (f_X13_forkNow_h144 (fun y54 y55 y56 y57 h53 =>
  cV h53 y54 11 (f_X13_spaceOf y54 0 y56 5 h53) fun v58 h59 =>
  (if ¬ v58 = 0 then
  jlp5 (f_X13_forkNow_h255 (fun y69 y70 y71 y72 h68 =>
  gR h68 y69 11 2 fun v73 =>
  bd (f_X13_processAt y72 1 h68) fun v74 h75 =>
  sI h75 v73 v74 y70 fun h76 =>
  gR h76 y69 11 2 fun v77 =>
  bd (f_X13_processAt y72 2 h76) fun v78 h79 =>
  sI h79 v77 v78 y71 fun h80 =>
  some (y72, h80))) jfu y54 y55 y56 y57 0 h59
  else
  gR h59 y54 11 2 fun v81 =>
  bd (f_X13_spaceAt 0 y56 h59) fun v82 h83 =>
  sI h83 v81 (v82 + 5) 1 fun h84 =>
  gR h84 y54 11 2 fun v85 =>
  bd (f_X13_spaceAt 0 y56 h84) fun v86 h87 =>
  sI h87 v85 (v86 + 4) y57 fun h88 =>
  jlp5 (f_X13_forkNow_h255 (fun y90 y91 y92 y93 h89 =>
  gR h89 y90 11 2 fun v94 =>
  bd (f_X13_processAt y93 1 h89) fun v95 h96 =>
  sI h96 v94 v95 y91 fun h97 =>
  gR h97 y90 11 2 fun v98 =>
  bd (f_X13_processAt y93 2 h97) fun v99 h100 =>
  sI h100 v98 v99 y92 fun h101 =>
  some (y93, h101))) jfu y54 y55 y56 y57 0 h88))) jfu y34 y35 y36 y37 y36 h33)) jfu y22 y23 y24 y25 0 h21
  else
  some ((-1), h21)))) jfu x0 x1 x2 x3 0 x2 h
  else
  cV h x0 11 (f_X13_isDead x0 x2 h) fun v102 h103 =>
  (if ¬ v102 = 0 then
  jlp6 (f_X13_forkNow_h55 (fun y106 y107 y108 y109 y110 h105 =>
  (if ¬ y110 = 0 then
  jlp5 (f_X13_forkNow_h116 (fun y113 y114 y115 y116 h112 =>
  jlp5 (f_X13_forkNow_h144 (fun y118 y119 y120 y121 h117 =>
  cV h117 y118 11 (f_X13_spaceOf y118 0 y120 5 h117) fun v122 h123 =>
  (if ¬ v122 = 0 then
  jlp5 (f_X13_forkNow_h255 (fun y126 y127 y128 y129 h125 =>
  gR h125 y126 11 2 fun v130 =>
  bd (f_X13_processAt y129 1 h125) fun v131 h132 =>
  sI h132 v130 v131 y127 fun h133 =>
  gR h133 y126 11 2 fun v134 =>
  bd (f_X13_processAt y129 2 h133) fun v135 h136 =>
  sI h136 v134 v135 y128 fun h137 =>
  some (y129, h137))) jfu y118 y119 y120 y121 0 h123
  else
  gR h123 y118 11 2 fun v138 =>
  bd (f_X13_spaceAt 0 y120 h123) fun v139 h140 =>
  sI h140 v138 (v139 + 5) 1 fun h141 =>
  gR h141 y118 11 2 fun v142 =>
  bd (f_X13_spaceAt 0 y120 h141) fun v143 h144 =>
  sI h144 v142 (v143 + 4) y121 fun h145 =>
  jlp5 (f_X13_forkNow_h255 (fun y147 y148 y149 y150 h146 =>
  gR h146 y147 11 2 fun v151 =>
  bd (f_X13_processAt y150 1 h146) fun v152 h153 =>
  sI h153 v151 v152 y148 fun h154 =>
  gR h154 y147 11 2 fun v155 =>
  bd (f_X13_processAt y150 2 h154) fun v156 h157 =>
  sI h157 v155 v156 y149 fun h158 =>
  some (y150, h158))) jfu y118 y119 y120 y121 0 h145))) jfu y113 y114 y115 y116 y115 h112)) jfu y106 y107 y108 y109 0 h105
  else
  some ((-1), h105)))) jfu x0 x1 x2 x3 0 x2 h103
  else
  jlp6 (f_X13_forkNow_h55 (fun y160 y161 y162 y163 y164 h159 =>
  (if ¬ y164 = 0 then
  jlp5 (f_X13_forkNow_h116 (fun y167 y168 y169 y170 h166 =>
  jlp5 (f_X13_forkNow_h144 (fun y172 y173 y174 y175 h171 =>
  cV h171 y172 11 (f_X13_spaceOf y172 0 y174 5 h171) fun v176 h177 =>
  (if ¬ v176 = 0 then
  jlp5 (f_X13_forkNow_h255 (fun y180 y181 y182 y183 h179 =>
  gR h179 y180 11 2 fun v184 =>
  bd (f_X13_processAt y183 1 h179) fun v185 h186 =>
  sI h186 v184 v185 y181 fun h187 =>
  gR h187 y180 11 2 fun v188 =>
  bd (f_X13_processAt y183 2 h187) fun v189 h190 =>
  sI h190 v188 v189 y182 fun h191 =>
  some (y183, h191))) jfu y172 y173 y174 y175 0 h177
  else
  gR h177 y172 11 2 fun v192 =>
  bd (f_X13_spaceAt 0 y174 h177) fun v193 h194 =>
  sI h194 v192 (v193 + 5) 1 fun h195 =>
  gR h195 y172 11 2 fun v196 =>
  bd (f_X13_spaceAt 0 y174 h195) fun v197 h198 =>
  sI h198 v196 (v197 + 4) y175 fun h199 =>
  jlp5 (f_X13_forkNow_h255 (fun y201 y202 y203 y204 h200 =>
  gR h200 y201 11 2 fun v205 =>
  bd (f_X13_processAt y204 1 h200) fun v206 h207 =>
  sI h207 v205 v206 y202 fun h208 =>
  gR h208 y201 11 2 fun v209 =>
  bd (f_X13_processAt y204 2 h208) fun v210 h211 =>
  sI h211 v209 v210 y203 fun h212 =>
  some (y204, h212))) jfu y172 y173 y174 y175 0 h199))) jfu y167 y168 y169 y170 y169 h166)) jfu y160 y161 y162 y163 0 h159
  else
  some ((-1), h159)))) jfu x0 x1 x2 x3 1 x2 h103))
theorem o_f_X13_forkNow_b31 {X : jx} {b0 : Nat × Nat} (x0 : Nat) (x1 : Int32) (x2 : Int32) (x3 : Int32) (h : jh) : jv_O X M_X13_forkNow b0 jeI 31 [some (.ref (x0)), some (.int (x1)), some (.int (x2)), some (.int (x3)), none, none, none] [] h (f_X13_forkNow_b31 x0 x1 x2 x3 h) := by
  unfold f_X13_forkNow_b31
  refine jv_iload_n (jv_dk t_X13_forkNow (k := 18) rfl) rfl rfl ?_
  refine jv_bipush (v := 16) (jv_dk t_X13_forkNow (k := 19) rfl) (by decide) ?_
  refine jv_icmp_ge (tgt := 49) (jv_dk t_X13_forkNow (k := 20) rfl) rfl (fun c12 => ?_) (fun c12 => ?_)
  · refine jv_iconst (v := 0) (jv_dk t_X13_forkNow (k := 27) rfl) (by decide) ?_
    refine jv_istore (L' := [some (.ref (x0)), some (.int (x1)), some (.int (x2)), some (.int (x3)), some (.int (0)), none, none]) (jv_dk t_X13_forkNow (k := 28) rfl) (Nat.le_of_ble_eq_true rfl) rfl ?_
    refine jv_iload_n (jv_dk t_X13_forkNow (k := 29) rfl) rfl rfl ?_
    refine jv_istore (L' := [some (.ref (x0)), some (.int (x1)), some (.int (x2)), some (.int (x3)), some (.int (0)), some (.int (x2)), none]) (jv_dk t_X13_forkNow (k := 30) rfl) (Nat.le_of_ble_eq_true rfl) rfl ?_
    refine o_f_X13_forkNow_h55 (fun y22 y23 y24 y25 y26 h21 => ?_) _ _ _ _ _ _ _ 
    show jv_O X M_X13_forkNow _ jeI 106 [some (.ref (y22)), some (.int (y23)), some (.int (y24)), some (.int (y25)), some (.int (y26)), none, none] [] h21 _
    refine jv_iload (jv_dk t_X13_forkNow (k := 57) rfl) rfl ?_
    refine jv_if_ne (tgt := 113) (jv_dk t_X13_forkNow (k := 58) rfl) rfl (fun c27 => ?_) (fun c27 => ?_)
    · refine jv_iconst (v := 0) (jv_dk t_X13_forkNow (k := 61) rfl) (by decide) ?_
      refine jv_istore (L' := [some (.ref (y22)), some (.int (y23)), some (.int (y24)), some (.int (y25)), some (.int (y26)), some (.int (0)), none]) (jv_dk t_X13_forkNow (k := 62) rfl) (Nat.le_of_ble_eq_true rfl) rfl ?_
      refine jv_le_row (jv_le_s (jv_le_s (jv_le_s (jv_le_s (jv_le_n (jv_le_s (jv_le_n (jv_le_nil)))))))) ?_
      refine o_f_X13_forkNow_h116 (fun y34 y35 y36 y37 h33 => ?_) _ _ _ _ _ _ 
      show jv_O X M_X13_forkNow _ jeI 141 [some (.ref (y34)), some (.int (y35)), some (.int (y36)), some (.int (y37)), none, none, none] [] h33 _
      refine jv_iload_n (jv_dk t_X13_forkNow (k := 75) rfl) rfl rfl ?_
      refine jv_istore (L' := [some (.ref (y34)), some (.int (y35)), some (.int (y36)), some (.int (y37)), none, some (.int (y36)), none]) (jv_dk t_X13_forkNow (k := 76) rfl) (Nat.le_of_ble_eq_true rfl) rfl ?_
      refine o_f_X13_forkNow_h144 (fun y54 y55 y56 y57 h53 => ?_) _ _ _ _ _ _ 
      show jv_O X M_X13_forkNow _ jeI 216 [some (.ref (y54)), some (.int (y55)), some (.int (y56)), some (.int (y57)), none, none, none] [] h53 _
      refine jv_aload_n (jv_dk t_X13_forkNow (k := 116) rfl) rfl rfl (Or.inr ⟨_, rfl⟩) ?_
      refine jv_iconst (v := 0) (jv_dk t_X13_forkNow (k := 117) rfl) (by decide) ?_
      refine jv_iload_n (jv_dk t_X13_forkNow (k := 118) rfl) rfl rfl ?_
      refine jv_iconst (v := 5) (jv_dk t_X13_forkNow (k := 119) rfl) (by decide) ?_
      refine jv_callV (en' := jeI) (pv := jpI) (As := [.int (0), .int (y56), .int (5)]) (S := []) (jv_dk t_X13_forkNow (k := 120) rfl) (fun _ => rfl) (Or.inl lk_X13_217) me_X13_spaceOf mv_X13_spaceOf ⟨by decide, by decide⟩ rfl rfl rfl (Nat.le_of_ble_eq_true rfl) (P_X13_spaceOf X y54 0 y56 5 h53) (fun v58 h59 => ?_)
      show jv_O X M_X13_forkNow _ jeI 223 [some (.ref (y54)), some (.int (y55)), some (.int (y56)), some (.int (y57)), none, none, none] [.int (v58)] h59 _
      refine jv_if_ne (tgt := 252) (jv_dk t_X13_forkNow (k := 121) rfl) rfl (fun c60 => ?_) (fun c60 => ?_)
      · refine jv_iconst (v := 0) (jv_dk t_X13_forkNow (k := 140) rfl) (by decide) ?_
        refine jv_istore (L' := [some (.ref (y54)), some (.int (y55)), some (.int (y56)), some (.int (y57)), none, some (.int (0)), none]) (jv_dk t_X13_forkNow (k := 141) rfl) (Nat.le_of_ble_eq_true rfl) rfl ?_
        refine o_f_X13_forkNow_h255 (fun y69 y70 y71 y72 h68 => ?_) _ _ _ _ _ _ 
        show jv_O X M_X13_forkNow _ jeI 286 [some (.ref (y69)), some (.int (y70)), some (.int (y71)), some (.int (y72)), none, none, none] [] h68 _
        refine jv_aload_n (jv_dk t_X13_forkNow (k := 157) rfl) rfl rfl (Or.inr ⟨_, rfl⟩) ?_
        refine jv_gR (jv_dk t_X13_forkNow (k := 158) rfl) fl_X13_37 (fun v73 => ?_)
        refine jv_iload_n (jv_dk t_X13_forkNow (k := 159) rfl) rfl rfl ?_
        refine jv_iconst (v := 1) (jv_dk t_X13_forkNow (k := 160) rfl) (by decide) ?_
        refine jv_callS (en' := jeI) (pv := jpI) (As := [.int (y72), .int (1)]) (S := [.ref (v73)]) (jv_dk t_X13_forkNow (k := 161) rfl) (fun _ => rfl) (Or.inl lk_X13_248) me_X13_processAt ms_X13_processAt ⟨by decide, by decide⟩ rfl rfl (Nat.le_of_ble_eq_true rfl) (P_X13_processAt X y72 1 h68) (fun v74 h75 => ?_)
        show jv_O X M_X13_forkNow _ jeI 295 [some (.ref (y69)), some (.int (y70)), some (.int (y71)), some (.int (y72)), none, none, none] [.int (v74), .ref (v73)] h75 _
        refine jv_iload_n (jv_dk t_X13_forkNow (k := 162) rfl) rfl rfl ?_
        refine jv_iastore (jv_dk t_X13_forkNow (k := 163) rfl) (fun h76 => ?_)
        refine jv_aload_n (jv_dk t_X13_forkNow (k := 164) rfl) rfl rfl (Or.inr ⟨_, rfl⟩) ?_
        refine jv_gR (jv_dk t_X13_forkNow (k := 165) rfl) fl_X13_37 (fun v77 => ?_)
        refine jv_iload_n (jv_dk t_X13_forkNow (k := 166) rfl) rfl rfl ?_
        refine jv_iconst (v := 2) (jv_dk t_X13_forkNow (k := 167) rfl) (by decide) ?_
        refine jv_callS (en' := jeI) (pv := jpI) (As := [.int (y72), .int (2)]) (S := [.ref (v77)]) (jv_dk t_X13_forkNow (k := 168) rfl) (fun _ => rfl) (Or.inl lk_X13_248) me_X13_processAt ms_X13_processAt ⟨by decide, by decide⟩ rfl rfl (Nat.le_of_ble_eq_true rfl) (P_X13_processAt X y72 2 h76) (fun v78 h79 => ?_)
        show jv_O X M_X13_forkNow _ jeI 306 [some (.ref (y69)), some (.int (y70)), some (.int (y71)), some (.int (y72)), none, none, none] [.int (v78), .ref (v77)] h79 _
        refine jv_iload_n (jv_dk t_X13_forkNow (k := 169) rfl) rfl rfl ?_
        refine jv_iastore (jv_dk t_X13_forkNow (k := 170) rfl) (fun h80 => ?_)
        refine jv_iload_n (jv_dk t_X13_forkNow (k := 171) rfl) rfl rfl ?_
        exact jv_iret (ty := .int) (jv_dk t_X13_forkNow (k := 172) rfl) rfl rfl rfl
      · show jv_O _ _ _ _ 226 _ _ _ _
        refine jv_aload_n (jv_dk t_X13_forkNow (k := 122) rfl) rfl rfl (Or.inr ⟨_, rfl⟩) ?_
        refine jv_gR (jv_dk t_X13_forkNow (k := 123) rfl) fl_X13_37 (fun v81 => ?_)
        refine jv_iconst (v := 0) (jv_dk t_X13_forkNow (k := 124) rfl) (by decide) ?_
        refine jv_iload_n (jv_dk t_X13_forkNow (k := 125) rfl) rfl rfl ?_
        refine jv_callS (en' := jeI) (pv := jpI) (As := [.int (0), .int (y56)]) (S := [.ref (v81)]) (jv_dk t_X13_forkNow (k := 126) rfl) (fun _ => rfl) (Or.inl lk_X13_99) me_X13_spaceAt ms_X13_spaceAt ⟨by decide, by decide⟩ rfl rfl (Nat.le_of_ble_eq_true rfl) (P_X13_spaceAt X 0 y56 h59) (fun v82 h83 => ?_)
        show jv_O X M_X13_forkNow _ jeI 235 [some (.ref (y54)), some (.int (y55)), some (.int (y56)), some (.int (y57)), none, none, none] [.int (v82), .ref (v81)] h83 _
        refine jv_iconst (v := 5) (jv_dk t_X13_forkNow (k := 127) rfl) (by decide) ?_
        refine jv_iadd (jv_dk t_X13_forkNow (k := 128) rfl) ?_
        refine jv_iconst (v := 1) (jv_dk t_X13_forkNow (k := 129) rfl) (by decide) ?_
        refine jv_iastore (jv_dk t_X13_forkNow (k := 130) rfl) (fun h84 => ?_)
        refine jv_aload_n (jv_dk t_X13_forkNow (k := 131) rfl) rfl rfl (Or.inr ⟨_, rfl⟩) ?_
        refine jv_gR (jv_dk t_X13_forkNow (k := 132) rfl) fl_X13_37 (fun v85 => ?_)
        refine jv_iconst (v := 0) (jv_dk t_X13_forkNow (k := 133) rfl) (by decide) ?_
        refine jv_iload_n (jv_dk t_X13_forkNow (k := 134) rfl) rfl rfl ?_
        refine jv_callS (en' := jeI) (pv := jpI) (As := [.int (0), .int (y56)]) (S := [.ref (v85)]) (jv_dk t_X13_forkNow (k := 135) rfl) (fun _ => rfl) (Or.inl lk_X13_99) me_X13_spaceAt ms_X13_spaceAt ⟨by decide, by decide⟩ rfl rfl (Nat.le_of_ble_eq_true rfl) (P_X13_spaceAt X 0 y56 h84) (fun v86 h87 => ?_)
        show jv_O X M_X13_forkNow _ jeI 248 [some (.ref (y54)), some (.int (y55)), some (.int (y56)), some (.int (y57)), none, none, none] [.int (v86), .ref (v85)] h87 _
        refine jv_iconst (v := 4) (jv_dk t_X13_forkNow (k := 136) rfl) (by decide) ?_
        refine jv_iadd (jv_dk t_X13_forkNow (k := 137) rfl) ?_
        refine jv_iload_n (jv_dk t_X13_forkNow (k := 138) rfl) rfl rfl ?_
        refine jv_iastore (jv_dk t_X13_forkNow (k := 139) rfl) (fun h88 => ?_)
        refine jv_iconst (v := 0) (jv_dk t_X13_forkNow (k := 140) rfl) (by decide) ?_
        refine jv_istore (L' := [some (.ref (y54)), some (.int (y55)), some (.int (y56)), some (.int (y57)), none, some (.int (0)), none]) (jv_dk t_X13_forkNow (k := 141) rfl) (Nat.le_of_ble_eq_true rfl) rfl ?_
        refine o_f_X13_forkNow_h255 (fun y90 y91 y92 y93 h89 => ?_) _ _ _ _ _ _ 
        show jv_O X M_X13_forkNow _ jeI 286 [some (.ref (y90)), some (.int (y91)), some (.int (y92)), some (.int (y93)), none, none, none] [] h89 _
        refine jv_aload_n (jv_dk t_X13_forkNow (k := 157) rfl) rfl rfl (Or.inr ⟨_, rfl⟩) ?_
        refine jv_gR (jv_dk t_X13_forkNow (k := 158) rfl) fl_X13_37 (fun v94 => ?_)
        refine jv_iload_n (jv_dk t_X13_forkNow (k := 159) rfl) rfl rfl ?_
        refine jv_iconst (v := 1) (jv_dk t_X13_forkNow (k := 160) rfl) (by decide) ?_
        refine jv_callS (en' := jeI) (pv := jpI) (As := [.int (y93), .int (1)]) (S := [.ref (v94)]) (jv_dk t_X13_forkNow (k := 161) rfl) (fun _ => rfl) (Or.inl lk_X13_248) me_X13_processAt ms_X13_processAt ⟨by decide, by decide⟩ rfl rfl (Nat.le_of_ble_eq_true rfl) (P_X13_processAt X y93 1 h89) (fun v95 h96 => ?_)
        show jv_O X M_X13_forkNow _ jeI 295 [some (.ref (y90)), some (.int (y91)), some (.int (y92)), some (.int (y93)), none, none, none] [.int (v95), .ref (v94)] h96 _
        refine jv_iload_n (jv_dk t_X13_forkNow (k := 162) rfl) rfl rfl ?_
        refine jv_iastore (jv_dk t_X13_forkNow (k := 163) rfl) (fun h97 => ?_)
        refine jv_aload_n (jv_dk t_X13_forkNow (k := 164) rfl) rfl rfl (Or.inr ⟨_, rfl⟩) ?_
        refine jv_gR (jv_dk t_X13_forkNow (k := 165) rfl) fl_X13_37 (fun v98 => ?_)
        refine jv_iload_n (jv_dk t_X13_forkNow (k := 166) rfl) rfl rfl ?_
        refine jv_iconst (v := 2) (jv_dk t_X13_forkNow (k := 167) rfl) (by decide) ?_
        refine jv_callS (en' := jeI) (pv := jpI) (As := [.int (y93), .int (2)]) (S := [.ref (v98)]) (jv_dk t_X13_forkNow (k := 168) rfl) (fun _ => rfl) (Or.inl lk_X13_248) me_X13_processAt ms_X13_processAt ⟨by decide, by decide⟩ rfl rfl (Nat.le_of_ble_eq_true rfl) (P_X13_processAt X y93 2 h97) (fun v99 h100 => ?_)
        show jv_O X M_X13_forkNow _ jeI 306 [some (.ref (y90)), some (.int (y91)), some (.int (y92)), some (.int (y93)), none, none, none] [.int (v99), .ref (v98)] h100 _
        refine jv_iload_n (jv_dk t_X13_forkNow (k := 169) rfl) rfl rfl ?_
        refine jv_iastore (jv_dk t_X13_forkNow (k := 170) rfl) (fun h101 => ?_)
        refine jv_iload_n (jv_dk t_X13_forkNow (k := 171) rfl) rfl rfl ?_
        exact jv_iret (ty := .int) (jv_dk t_X13_forkNow (k := 172) rfl) rfl rfl rfl
    · show jv_O _ _ _ _ 111 _ _ _ _
      refine jv_iconst (v := (-1)) (jv_dk t_X13_forkNow (k := 59) rfl) (by decide) ?_
      exact jv_iret (ty := .int) (jv_dk t_X13_forkNow (k := 60) rfl) rfl rfl rfl
  · show jv_O _ _ _ _ 37 _ _ _ _
    refine jv_aload_n (jv_dk t_X13_forkNow (k := 21) rfl) rfl rfl (Or.inr ⟨_, rfl⟩) ?_
    refine jv_iload_n (jv_dk t_X13_forkNow (k := 22) rfl) rfl rfl ?_
    refine jv_callV (en' := jeI) (pv := jpI) (As := [.int (x2)]) (S := []) (jv_dk t_X13_forkNow (k := 23) rfl) (fun _ => rfl) (Or.inl lk_X13_241) me_X13_isDead mv_X13_isDead ⟨by decide, by decide⟩ rfl rfl rfl (Nat.le_of_ble_eq_true rfl) (P_X13_isDead X x0 x2 h) (fun v102 h103 => ?_)
    show jv_O X M_X13_forkNow _ jeI 42 [some (.ref (x0)), some (.int (x1)), some (.int (x2)), some (.int (x3)), none, none, none] [.int (v102)] h103 _
    refine jv_if_ne (tgt := 49) (jv_dk t_X13_forkNow (k := 24) rfl) rfl (fun c104 => ?_) (fun c104 => ?_)
    · refine jv_iconst (v := 0) (jv_dk t_X13_forkNow (k := 27) rfl) (by decide) ?_
      refine jv_istore (L' := [some (.ref (x0)), some (.int (x1)), some (.int (x2)), some (.int (x3)), some (.int (0)), none, none]) (jv_dk t_X13_forkNow (k := 28) rfl) (Nat.le_of_ble_eq_true rfl) rfl ?_
      refine jv_iload_n (jv_dk t_X13_forkNow (k := 29) rfl) rfl rfl ?_
      refine jv_istore (L' := [some (.ref (x0)), some (.int (x1)), some (.int (x2)), some (.int (x3)), some (.int (0)), some (.int (x2)), none]) (jv_dk t_X13_forkNow (k := 30) rfl) (Nat.le_of_ble_eq_true rfl) rfl ?_
      refine o_f_X13_forkNow_h55 (fun y106 y107 y108 y109 y110 h105 => ?_) _ _ _ _ _ _ _ 
      show jv_O X M_X13_forkNow _ jeI 106 [some (.ref (y106)), some (.int (y107)), some (.int (y108)), some (.int (y109)), some (.int (y110)), none, none] [] h105 _
      refine jv_iload (jv_dk t_X13_forkNow (k := 57) rfl) rfl ?_
      refine jv_if_ne (tgt := 113) (jv_dk t_X13_forkNow (k := 58) rfl) rfl (fun c111 => ?_) (fun c111 => ?_)
      · refine jv_iconst (v := 0) (jv_dk t_X13_forkNow (k := 61) rfl) (by decide) ?_
        refine jv_istore (L' := [some (.ref (y106)), some (.int (y107)), some (.int (y108)), some (.int (y109)), some (.int (y110)), some (.int (0)), none]) (jv_dk t_X13_forkNow (k := 62) rfl) (Nat.le_of_ble_eq_true rfl) rfl ?_
        refine jv_le_row (jv_le_s (jv_le_s (jv_le_s (jv_le_s (jv_le_n (jv_le_s (jv_le_n (jv_le_nil)))))))) ?_
        refine o_f_X13_forkNow_h116 (fun y113 y114 y115 y116 h112 => ?_) _ _ _ _ _ _ 
        show jv_O X M_X13_forkNow _ jeI 141 [some (.ref (y113)), some (.int (y114)), some (.int (y115)), some (.int (y116)), none, none, none] [] h112 _
        refine jv_iload_n (jv_dk t_X13_forkNow (k := 75) rfl) rfl rfl ?_
        refine jv_istore (L' := [some (.ref (y113)), some (.int (y114)), some (.int (y115)), some (.int (y116)), none, some (.int (y115)), none]) (jv_dk t_X13_forkNow (k := 76) rfl) (Nat.le_of_ble_eq_true rfl) rfl ?_
        refine o_f_X13_forkNow_h144 (fun y118 y119 y120 y121 h117 => ?_) _ _ _ _ _ _ 
        show jv_O X M_X13_forkNow _ jeI 216 [some (.ref (y118)), some (.int (y119)), some (.int (y120)), some (.int (y121)), none, none, none] [] h117 _
        refine jv_aload_n (jv_dk t_X13_forkNow (k := 116) rfl) rfl rfl (Or.inr ⟨_, rfl⟩) ?_
        refine jv_iconst (v := 0) (jv_dk t_X13_forkNow (k := 117) rfl) (by decide) ?_
        refine jv_iload_n (jv_dk t_X13_forkNow (k := 118) rfl) rfl rfl ?_
        refine jv_iconst (v := 5) (jv_dk t_X13_forkNow (k := 119) rfl) (by decide) ?_
        refine jv_callV (en' := jeI) (pv := jpI) (As := [.int (0), .int (y120), .int (5)]) (S := []) (jv_dk t_X13_forkNow (k := 120) rfl) (fun _ => rfl) (Or.inl lk_X13_217) me_X13_spaceOf mv_X13_spaceOf ⟨by decide, by decide⟩ rfl rfl rfl (Nat.le_of_ble_eq_true rfl) (P_X13_spaceOf X y118 0 y120 5 h117) (fun v122 h123 => ?_)
        show jv_O X M_X13_forkNow _ jeI 223 [some (.ref (y118)), some (.int (y119)), some (.int (y120)), some (.int (y121)), none, none, none] [.int (v122)] h123 _
        refine jv_if_ne (tgt := 252) (jv_dk t_X13_forkNow (k := 121) rfl) rfl (fun c124 => ?_) (fun c124 => ?_)
        · refine jv_iconst (v := 0) (jv_dk t_X13_forkNow (k := 140) rfl) (by decide) ?_
          refine jv_istore (L' := [some (.ref (y118)), some (.int (y119)), some (.int (y120)), some (.int (y121)), none, some (.int (0)), none]) (jv_dk t_X13_forkNow (k := 141) rfl) (Nat.le_of_ble_eq_true rfl) rfl ?_
          refine o_f_X13_forkNow_h255 (fun y126 y127 y128 y129 h125 => ?_) _ _ _ _ _ _ 
          show jv_O X M_X13_forkNow _ jeI 286 [some (.ref (y126)), some (.int (y127)), some (.int (y128)), some (.int (y129)), none, none, none] [] h125 _
          refine jv_aload_n (jv_dk t_X13_forkNow (k := 157) rfl) rfl rfl (Or.inr ⟨_, rfl⟩) ?_
          refine jv_gR (jv_dk t_X13_forkNow (k := 158) rfl) fl_X13_37 (fun v130 => ?_)
          refine jv_iload_n (jv_dk t_X13_forkNow (k := 159) rfl) rfl rfl ?_
          refine jv_iconst (v := 1) (jv_dk t_X13_forkNow (k := 160) rfl) (by decide) ?_
          refine jv_callS (en' := jeI) (pv := jpI) (As := [.int (y129), .int (1)]) (S := [.ref (v130)]) (jv_dk t_X13_forkNow (k := 161) rfl) (fun _ => rfl) (Or.inl lk_X13_248) me_X13_processAt ms_X13_processAt ⟨by decide, by decide⟩ rfl rfl (Nat.le_of_ble_eq_true rfl) (P_X13_processAt X y129 1 h125) (fun v131 h132 => ?_)
          show jv_O X M_X13_forkNow _ jeI 295 [some (.ref (y126)), some (.int (y127)), some (.int (y128)), some (.int (y129)), none, none, none] [.int (v131), .ref (v130)] h132 _
          refine jv_iload_n (jv_dk t_X13_forkNow (k := 162) rfl) rfl rfl ?_
          refine jv_iastore (jv_dk t_X13_forkNow (k := 163) rfl) (fun h133 => ?_)
          refine jv_aload_n (jv_dk t_X13_forkNow (k := 164) rfl) rfl rfl (Or.inr ⟨_, rfl⟩) ?_
          refine jv_gR (jv_dk t_X13_forkNow (k := 165) rfl) fl_X13_37 (fun v134 => ?_)
          refine jv_iload_n (jv_dk t_X13_forkNow (k := 166) rfl) rfl rfl ?_
          refine jv_iconst (v := 2) (jv_dk t_X13_forkNow (k := 167) rfl) (by decide) ?_
          refine jv_callS (en' := jeI) (pv := jpI) (As := [.int (y129), .int (2)]) (S := [.ref (v134)]) (jv_dk t_X13_forkNow (k := 168) rfl) (fun _ => rfl) (Or.inl lk_X13_248) me_X13_processAt ms_X13_processAt ⟨by decide, by decide⟩ rfl rfl (Nat.le_of_ble_eq_true rfl) (P_X13_processAt X y129 2 h133) (fun v135 h136 => ?_)
          show jv_O X M_X13_forkNow _ jeI 306 [some (.ref (y126)), some (.int (y127)), some (.int (y128)), some (.int (y129)), none, none, none] [.int (v135), .ref (v134)] h136 _
          refine jv_iload_n (jv_dk t_X13_forkNow (k := 169) rfl) rfl rfl ?_
          refine jv_iastore (jv_dk t_X13_forkNow (k := 170) rfl) (fun h137 => ?_)
          refine jv_iload_n (jv_dk t_X13_forkNow (k := 171) rfl) rfl rfl ?_
          exact jv_iret (ty := .int) (jv_dk t_X13_forkNow (k := 172) rfl) rfl rfl rfl
        · show jv_O _ _ _ _ 226 _ _ _ _
          refine jv_aload_n (jv_dk t_X13_forkNow (k := 122) rfl) rfl rfl (Or.inr ⟨_, rfl⟩) ?_
          refine jv_gR (jv_dk t_X13_forkNow (k := 123) rfl) fl_X13_37 (fun v138 => ?_)
          refine jv_iconst (v := 0) (jv_dk t_X13_forkNow (k := 124) rfl) (by decide) ?_
          refine jv_iload_n (jv_dk t_X13_forkNow (k := 125) rfl) rfl rfl ?_
          refine jv_callS (en' := jeI) (pv := jpI) (As := [.int (0), .int (y120)]) (S := [.ref (v138)]) (jv_dk t_X13_forkNow (k := 126) rfl) (fun _ => rfl) (Or.inl lk_X13_99) me_X13_spaceAt ms_X13_spaceAt ⟨by decide, by decide⟩ rfl rfl (Nat.le_of_ble_eq_true rfl) (P_X13_spaceAt X 0 y120 h123) (fun v139 h140 => ?_)
          show jv_O X M_X13_forkNow _ jeI 235 [some (.ref (y118)), some (.int (y119)), some (.int (y120)), some (.int (y121)), none, none, none] [.int (v139), .ref (v138)] h140 _
          refine jv_iconst (v := 5) (jv_dk t_X13_forkNow (k := 127) rfl) (by decide) ?_
          refine jv_iadd (jv_dk t_X13_forkNow (k := 128) rfl) ?_
          refine jv_iconst (v := 1) (jv_dk t_X13_forkNow (k := 129) rfl) (by decide) ?_
          refine jv_iastore (jv_dk t_X13_forkNow (k := 130) rfl) (fun h141 => ?_)
          refine jv_aload_n (jv_dk t_X13_forkNow (k := 131) rfl) rfl rfl (Or.inr ⟨_, rfl⟩) ?_
          refine jv_gR (jv_dk t_X13_forkNow (k := 132) rfl) fl_X13_37 (fun v142 => ?_)
          refine jv_iconst (v := 0) (jv_dk t_X13_forkNow (k := 133) rfl) (by decide) ?_
          refine jv_iload_n (jv_dk t_X13_forkNow (k := 134) rfl) rfl rfl ?_
          refine jv_callS (en' := jeI) (pv := jpI) (As := [.int (0), .int (y120)]) (S := [.ref (v142)]) (jv_dk t_X13_forkNow (k := 135) rfl) (fun _ => rfl) (Or.inl lk_X13_99) me_X13_spaceAt ms_X13_spaceAt ⟨by decide, by decide⟩ rfl rfl (Nat.le_of_ble_eq_true rfl) (P_X13_spaceAt X 0 y120 h141) (fun v143 h144 => ?_)
          show jv_O X M_X13_forkNow _ jeI 248 [some (.ref (y118)), some (.int (y119)), some (.int (y120)), some (.int (y121)), none, none, none] [.int (v143), .ref (v142)] h144 _
          refine jv_iconst (v := 4) (jv_dk t_X13_forkNow (k := 136) rfl) (by decide) ?_
          refine jv_iadd (jv_dk t_X13_forkNow (k := 137) rfl) ?_
          refine jv_iload_n (jv_dk t_X13_forkNow (k := 138) rfl) rfl rfl ?_
          refine jv_iastore (jv_dk t_X13_forkNow (k := 139) rfl) (fun h145 => ?_)
          refine jv_iconst (v := 0) (jv_dk t_X13_forkNow (k := 140) rfl) (by decide) ?_
          refine jv_istore (L' := [some (.ref (y118)), some (.int (y119)), some (.int (y120)), some (.int (y121)), none, some (.int (0)), none]) (jv_dk t_X13_forkNow (k := 141) rfl) (Nat.le_of_ble_eq_true rfl) rfl ?_
          refine o_f_X13_forkNow_h255 (fun y147 y148 y149 y150 h146 => ?_) _ _ _ _ _ _ 
          show jv_O X M_X13_forkNow _ jeI 286 [some (.ref (y147)), some (.int (y148)), some (.int (y149)), some (.int (y150)), none, none, none] [] h146 _
          refine jv_aload_n (jv_dk t_X13_forkNow (k := 157) rfl) rfl rfl (Or.inr ⟨_, rfl⟩) ?_
          refine jv_gR (jv_dk t_X13_forkNow (k := 158) rfl) fl_X13_37 (fun v151 => ?_)
          refine jv_iload_n (jv_dk t_X13_forkNow (k := 159) rfl) rfl rfl ?_
          refine jv_iconst (v := 1) (jv_dk t_X13_forkNow (k := 160) rfl) (by decide) ?_
          refine jv_callS (en' := jeI) (pv := jpI) (As := [.int (y150), .int (1)]) (S := [.ref (v151)]) (jv_dk t_X13_forkNow (k := 161) rfl) (fun _ => rfl) (Or.inl lk_X13_248) me_X13_processAt ms_X13_processAt ⟨by decide, by decide⟩ rfl rfl (Nat.le_of_ble_eq_true rfl) (P_X13_processAt X y150 1 h146) (fun v152 h153 => ?_)
          show jv_O X M_X13_forkNow _ jeI 295 [some (.ref (y147)), some (.int (y148)), some (.int (y149)), some (.int (y150)), none, none, none] [.int (v152), .ref (v151)] h153 _
          refine jv_iload_n (jv_dk t_X13_forkNow (k := 162) rfl) rfl rfl ?_
          refine jv_iastore (jv_dk t_X13_forkNow (k := 163) rfl) (fun h154 => ?_)
          refine jv_aload_n (jv_dk t_X13_forkNow (k := 164) rfl) rfl rfl (Or.inr ⟨_, rfl⟩) ?_
          refine jv_gR (jv_dk t_X13_forkNow (k := 165) rfl) fl_X13_37 (fun v155 => ?_)
          refine jv_iload_n (jv_dk t_X13_forkNow (k := 166) rfl) rfl rfl ?_
          refine jv_iconst (v := 2) (jv_dk t_X13_forkNow (k := 167) rfl) (by decide) ?_
          refine jv_callS (en' := jeI) (pv := jpI) (As := [.int (y150), .int (2)]) (S := [.ref (v155)]) (jv_dk t_X13_forkNow (k := 168) rfl) (fun _ => rfl) (Or.inl lk_X13_248) me_X13_processAt ms_X13_processAt ⟨by decide, by decide⟩ rfl rfl (Nat.le_of_ble_eq_true rfl) (P_X13_processAt X y150 2 h154) (fun v156 h157 => ?_)
          show jv_O X M_X13_forkNow _ jeI 306 [some (.ref (y147)), some (.int (y148)), some (.int (y149)), some (.int (y150)), none, none, none] [.int (v156), .ref (v155)] h157 _
          refine jv_iload_n (jv_dk t_X13_forkNow (k := 169) rfl) rfl rfl ?_
          refine jv_iastore (jv_dk t_X13_forkNow (k := 170) rfl) (fun h158 => ?_)
          refine jv_iload_n (jv_dk t_X13_forkNow (k := 171) rfl) rfl rfl ?_
          exact jv_iret (ty := .int) (jv_dk t_X13_forkNow (k := 172) rfl) rfl rfl rfl
      · show jv_O _ _ _ _ 111 _ _ _ _
        refine jv_iconst (v := (-1)) (jv_dk t_X13_forkNow (k := 59) rfl) (by decide) ?_
        exact jv_iret (ty := .int) (jv_dk t_X13_forkNow (k := 60) rfl) rfl rfl rfl
    · show jv_O _ _ _ _ 45 _ _ _ _
      refine jv_iconst (v := 1) (jv_dk t_X13_forkNow (k := 25) rfl) (by decide) ?_
      refine jv_goto (tgt := 50) (jv_dk t_X13_forkNow (k := 26) rfl) rfl ?_
      refine jv_istore (L' := [some (.ref (x0)), some (.int (x1)), some (.int (x2)), some (.int (x3)), some (.int (1)), none, none]) (jv_dk t_X13_forkNow (k := 28) rfl) (Nat.le_of_ble_eq_true rfl) rfl ?_
      refine jv_iload_n (jv_dk t_X13_forkNow (k := 29) rfl) rfl rfl ?_
      refine jv_istore (L' := [some (.ref (x0)), some (.int (x1)), some (.int (x2)), some (.int (x3)), some (.int (1)), some (.int (x2)), none]) (jv_dk t_X13_forkNow (k := 30) rfl) (Nat.le_of_ble_eq_true rfl) rfl ?_
      refine o_f_X13_forkNow_h55 (fun y160 y161 y162 y163 y164 h159 => ?_) _ _ _ _ _ _ _ 
      show jv_O X M_X13_forkNow _ jeI 106 [some (.ref (y160)), some (.int (y161)), some (.int (y162)), some (.int (y163)), some (.int (y164)), none, none] [] h159 _
      refine jv_iload (jv_dk t_X13_forkNow (k := 57) rfl) rfl ?_
      refine jv_if_ne (tgt := 113) (jv_dk t_X13_forkNow (k := 58) rfl) rfl (fun c165 => ?_) (fun c165 => ?_)
      · refine jv_iconst (v := 0) (jv_dk t_X13_forkNow (k := 61) rfl) (by decide) ?_
        refine jv_istore (L' := [some (.ref (y160)), some (.int (y161)), some (.int (y162)), some (.int (y163)), some (.int (y164)), some (.int (0)), none]) (jv_dk t_X13_forkNow (k := 62) rfl) (Nat.le_of_ble_eq_true rfl) rfl ?_
        refine jv_le_row (jv_le_s (jv_le_s (jv_le_s (jv_le_s (jv_le_n (jv_le_s (jv_le_n (jv_le_nil)))))))) ?_
        refine o_f_X13_forkNow_h116 (fun y167 y168 y169 y170 h166 => ?_) _ _ _ _ _ _ 
        show jv_O X M_X13_forkNow _ jeI 141 [some (.ref (y167)), some (.int (y168)), some (.int (y169)), some (.int (y170)), none, none, none] [] h166 _
        refine jv_iload_n (jv_dk t_X13_forkNow (k := 75) rfl) rfl rfl ?_
        refine jv_istore (L' := [some (.ref (y167)), some (.int (y168)), some (.int (y169)), some (.int (y170)), none, some (.int (y169)), none]) (jv_dk t_X13_forkNow (k := 76) rfl) (Nat.le_of_ble_eq_true rfl) rfl ?_
        refine o_f_X13_forkNow_h144 (fun y172 y173 y174 y175 h171 => ?_) _ _ _ _ _ _ 
        show jv_O X M_X13_forkNow _ jeI 216 [some (.ref (y172)), some (.int (y173)), some (.int (y174)), some (.int (y175)), none, none, none] [] h171 _
        refine jv_aload_n (jv_dk t_X13_forkNow (k := 116) rfl) rfl rfl (Or.inr ⟨_, rfl⟩) ?_
        refine jv_iconst (v := 0) (jv_dk t_X13_forkNow (k := 117) rfl) (by decide) ?_
        refine jv_iload_n (jv_dk t_X13_forkNow (k := 118) rfl) rfl rfl ?_
        refine jv_iconst (v := 5) (jv_dk t_X13_forkNow (k := 119) rfl) (by decide) ?_
        refine jv_callV (en' := jeI) (pv := jpI) (As := [.int (0), .int (y174), .int (5)]) (S := []) (jv_dk t_X13_forkNow (k := 120) rfl) (fun _ => rfl) (Or.inl lk_X13_217) me_X13_spaceOf mv_X13_spaceOf ⟨by decide, by decide⟩ rfl rfl rfl (Nat.le_of_ble_eq_true rfl) (P_X13_spaceOf X y172 0 y174 5 h171) (fun v176 h177 => ?_)
        show jv_O X M_X13_forkNow _ jeI 223 [some (.ref (y172)), some (.int (y173)), some (.int (y174)), some (.int (y175)), none, none, none] [.int (v176)] h177 _
        refine jv_if_ne (tgt := 252) (jv_dk t_X13_forkNow (k := 121) rfl) rfl (fun c178 => ?_) (fun c178 => ?_)
        · refine jv_iconst (v := 0) (jv_dk t_X13_forkNow (k := 140) rfl) (by decide) ?_
          refine jv_istore (L' := [some (.ref (y172)), some (.int (y173)), some (.int (y174)), some (.int (y175)), none, some (.int (0)), none]) (jv_dk t_X13_forkNow (k := 141) rfl) (Nat.le_of_ble_eq_true rfl) rfl ?_
          refine o_f_X13_forkNow_h255 (fun y180 y181 y182 y183 h179 => ?_) _ _ _ _ _ _ 
          show jv_O X M_X13_forkNow _ jeI 286 [some (.ref (y180)), some (.int (y181)), some (.int (y182)), some (.int (y183)), none, none, none] [] h179 _
          refine jv_aload_n (jv_dk t_X13_forkNow (k := 157) rfl) rfl rfl (Or.inr ⟨_, rfl⟩) ?_
          refine jv_gR (jv_dk t_X13_forkNow (k := 158) rfl) fl_X13_37 (fun v184 => ?_)
          refine jv_iload_n (jv_dk t_X13_forkNow (k := 159) rfl) rfl rfl ?_
          refine jv_iconst (v := 1) (jv_dk t_X13_forkNow (k := 160) rfl) (by decide) ?_
          refine jv_callS (en' := jeI) (pv := jpI) (As := [.int (y183), .int (1)]) (S := [.ref (v184)]) (jv_dk t_X13_forkNow (k := 161) rfl) (fun _ => rfl) (Or.inl lk_X13_248) me_X13_processAt ms_X13_processAt ⟨by decide, by decide⟩ rfl rfl (Nat.le_of_ble_eq_true rfl) (P_X13_processAt X y183 1 h179) (fun v185 h186 => ?_)
          show jv_O X M_X13_forkNow _ jeI 295 [some (.ref (y180)), some (.int (y181)), some (.int (y182)), some (.int (y183)), none, none, none] [.int (v185), .ref (v184)] h186 _
          refine jv_iload_n (jv_dk t_X13_forkNow (k := 162) rfl) rfl rfl ?_
          refine jv_iastore (jv_dk t_X13_forkNow (k := 163) rfl) (fun h187 => ?_)
          refine jv_aload_n (jv_dk t_X13_forkNow (k := 164) rfl) rfl rfl (Or.inr ⟨_, rfl⟩) ?_
          refine jv_gR (jv_dk t_X13_forkNow (k := 165) rfl) fl_X13_37 (fun v188 => ?_)
          refine jv_iload_n (jv_dk t_X13_forkNow (k := 166) rfl) rfl rfl ?_
          refine jv_iconst (v := 2) (jv_dk t_X13_forkNow (k := 167) rfl) (by decide) ?_
          refine jv_callS (en' := jeI) (pv := jpI) (As := [.int (y183), .int (2)]) (S := [.ref (v188)]) (jv_dk t_X13_forkNow (k := 168) rfl) (fun _ => rfl) (Or.inl lk_X13_248) me_X13_processAt ms_X13_processAt ⟨by decide, by decide⟩ rfl rfl (Nat.le_of_ble_eq_true rfl) (P_X13_processAt X y183 2 h187) (fun v189 h190 => ?_)
          show jv_O X M_X13_forkNow _ jeI 306 [some (.ref (y180)), some (.int (y181)), some (.int (y182)), some (.int (y183)), none, none, none] [.int (v189), .ref (v188)] h190 _
          refine jv_iload_n (jv_dk t_X13_forkNow (k := 169) rfl) rfl rfl ?_
          refine jv_iastore (jv_dk t_X13_forkNow (k := 170) rfl) (fun h191 => ?_)
          refine jv_iload_n (jv_dk t_X13_forkNow (k := 171) rfl) rfl rfl ?_
          exact jv_iret (ty := .int) (jv_dk t_X13_forkNow (k := 172) rfl) rfl rfl rfl
        · show jv_O _ _ _ _ 226 _ _ _ _
          refine jv_aload_n (jv_dk t_X13_forkNow (k := 122) rfl) rfl rfl (Or.inr ⟨_, rfl⟩) ?_
          refine jv_gR (jv_dk t_X13_forkNow (k := 123) rfl) fl_X13_37 (fun v192 => ?_)
          refine jv_iconst (v := 0) (jv_dk t_X13_forkNow (k := 124) rfl) (by decide) ?_
          refine jv_iload_n (jv_dk t_X13_forkNow (k := 125) rfl) rfl rfl ?_
          refine jv_callS (en' := jeI) (pv := jpI) (As := [.int (0), .int (y174)]) (S := [.ref (v192)]) (jv_dk t_X13_forkNow (k := 126) rfl) (fun _ => rfl) (Or.inl lk_X13_99) me_X13_spaceAt ms_X13_spaceAt ⟨by decide, by decide⟩ rfl rfl (Nat.le_of_ble_eq_true rfl) (P_X13_spaceAt X 0 y174 h177) (fun v193 h194 => ?_)
          show jv_O X M_X13_forkNow _ jeI 235 [some (.ref (y172)), some (.int (y173)), some (.int (y174)), some (.int (y175)), none, none, none] [.int (v193), .ref (v192)] h194 _
          refine jv_iconst (v := 5) (jv_dk t_X13_forkNow (k := 127) rfl) (by decide) ?_
          refine jv_iadd (jv_dk t_X13_forkNow (k := 128) rfl) ?_
          refine jv_iconst (v := 1) (jv_dk t_X13_forkNow (k := 129) rfl) (by decide) ?_
          refine jv_iastore (jv_dk t_X13_forkNow (k := 130) rfl) (fun h195 => ?_)
          refine jv_aload_n (jv_dk t_X13_forkNow (k := 131) rfl) rfl rfl (Or.inr ⟨_, rfl⟩) ?_
          refine jv_gR (jv_dk t_X13_forkNow (k := 132) rfl) fl_X13_37 (fun v196 => ?_)
          refine jv_iconst (v := 0) (jv_dk t_X13_forkNow (k := 133) rfl) (by decide) ?_
          refine jv_iload_n (jv_dk t_X13_forkNow (k := 134) rfl) rfl rfl ?_
          refine jv_callS (en' := jeI) (pv := jpI) (As := [.int (0), .int (y174)]) (S := [.ref (v196)]) (jv_dk t_X13_forkNow (k := 135) rfl) (fun _ => rfl) (Or.inl lk_X13_99) me_X13_spaceAt ms_X13_spaceAt ⟨by decide, by decide⟩ rfl rfl (Nat.le_of_ble_eq_true rfl) (P_X13_spaceAt X 0 y174 h195) (fun v197 h198 => ?_)
          show jv_O X M_X13_forkNow _ jeI 248 [some (.ref (y172)), some (.int (y173)), some (.int (y174)), some (.int (y175)), none, none, none] [.int (v197), .ref (v196)] h198 _
          refine jv_iconst (v := 4) (jv_dk t_X13_forkNow (k := 136) rfl) (by decide) ?_
          refine jv_iadd (jv_dk t_X13_forkNow (k := 137) rfl) ?_
          refine jv_iload_n (jv_dk t_X13_forkNow (k := 138) rfl) rfl rfl ?_
          refine jv_iastore (jv_dk t_X13_forkNow (k := 139) rfl) (fun h199 => ?_)
          refine jv_iconst (v := 0) (jv_dk t_X13_forkNow (k := 140) rfl) (by decide) ?_
          refine jv_istore (L' := [some (.ref (y172)), some (.int (y173)), some (.int (y174)), some (.int (y175)), none, some (.int (0)), none]) (jv_dk t_X13_forkNow (k := 141) rfl) (Nat.le_of_ble_eq_true rfl) rfl ?_
          refine o_f_X13_forkNow_h255 (fun y201 y202 y203 y204 h200 => ?_) _ _ _ _ _ _ 
          show jv_O X M_X13_forkNow _ jeI 286 [some (.ref (y201)), some (.int (y202)), some (.int (y203)), some (.int (y204)), none, none, none] [] h200 _
          refine jv_aload_n (jv_dk t_X13_forkNow (k := 157) rfl) rfl rfl (Or.inr ⟨_, rfl⟩) ?_
          refine jv_gR (jv_dk t_X13_forkNow (k := 158) rfl) fl_X13_37 (fun v205 => ?_)
          refine jv_iload_n (jv_dk t_X13_forkNow (k := 159) rfl) rfl rfl ?_
          refine jv_iconst (v := 1) (jv_dk t_X13_forkNow (k := 160) rfl) (by decide) ?_
          refine jv_callS (en' := jeI) (pv := jpI) (As := [.int (y204), .int (1)]) (S := [.ref (v205)]) (jv_dk t_X13_forkNow (k := 161) rfl) (fun _ => rfl) (Or.inl lk_X13_248) me_X13_processAt ms_X13_processAt ⟨by decide, by decide⟩ rfl rfl (Nat.le_of_ble_eq_true rfl) (P_X13_processAt X y204 1 h200) (fun v206 h207 => ?_)
          show jv_O X M_X13_forkNow _ jeI 295 [some (.ref (y201)), some (.int (y202)), some (.int (y203)), some (.int (y204)), none, none, none] [.int (v206), .ref (v205)] h207 _
          refine jv_iload_n (jv_dk t_X13_forkNow (k := 162) rfl) rfl rfl ?_
          refine jv_iastore (jv_dk t_X13_forkNow (k := 163) rfl) (fun h208 => ?_)
          refine jv_aload_n (jv_dk t_X13_forkNow (k := 164) rfl) rfl rfl (Or.inr ⟨_, rfl⟩) ?_
          refine jv_gR (jv_dk t_X13_forkNow (k := 165) rfl) fl_X13_37 (fun v209 => ?_)
          refine jv_iload_n (jv_dk t_X13_forkNow (k := 166) rfl) rfl rfl ?_
          refine jv_iconst (v := 2) (jv_dk t_X13_forkNow (k := 167) rfl) (by decide) ?_
          refine jv_callS (en' := jeI) (pv := jpI) (As := [.int (y204), .int (2)]) (S := [.ref (v209)]) (jv_dk t_X13_forkNow (k := 168) rfl) (fun _ => rfl) (Or.inl lk_X13_248) me_X13_processAt ms_X13_processAt ⟨by decide, by decide⟩ rfl rfl (Nat.le_of_ble_eq_true rfl) (P_X13_processAt X y204 2 h208) (fun v210 h211 => ?_)
          show jv_O X M_X13_forkNow _ jeI 306 [some (.ref (y201)), some (.int (y202)), some (.int (y203)), some (.int (y204)), none, none, none] [.int (v210), .ref (v209)] h211 _
          refine jv_iload_n (jv_dk t_X13_forkNow (k := 169) rfl) rfl rfl ?_
          refine jv_iastore (jv_dk t_X13_forkNow (k := 170) rfl) (fun h212 => ?_)
          refine jv_iload_n (jv_dk t_X13_forkNow (k := 171) rfl) rfl rfl ?_
          exact jv_iret (ty := .int) (jv_dk t_X13_forkNow (k := 172) rfl) rfl rfl rfl
      · show jv_O _ _ _ _ 111 _ _ _ _
        refine jv_iconst (v := (-1)) (jv_dk t_X13_forkNow (k := 59) rfl) (by decide) ?_
        exact jv_iret (ty := .int) (jv_dk t_X13_forkNow (k := 60) rfl) rfl rfl rfl
def f_X13_forkNow (a0 : Nat) (a1 : Int32) (h : jh) : Option (Int32 × jh) :=
  cV h a0 11 (f_X13_of a0 a1 5 h) fun v1 h2 =>
  jlp4 (f_X13_forkNow_h9 (fun y8 y9 y10 y11 h7 =>
  f_X13_forkNow_b31 y8 y9 y10 y11 h7)) jfu a0 a1 v1 0 h2
theorem P_X13_forkNow (X : jx) (a0 : Nat) (a1 : Int32) (h : jh) : jv_P X M_X13_forkNow jeI [.ref (a0), .int (a1)] h (f_X13_forkNow a0 a1 h) := by
  refine jv_P.of (by decide) rfl (by simp [Value.category]) (Nat.le_of_ble_eq_true rfl) ?_
  show jv_O X M_X13_forkNow (h.1, h.2.1) jeI 0 [some (.ref (a0)), some (.int (a1)), none, none, none, none, none] [] h (f_X13_forkNow a0 a1 h)
  unfold f_X13_forkNow
  refine jv_aload_n (jv_dk t_X13_forkNow (k := 0) rfl) rfl rfl (Or.inr ⟨_, rfl⟩) ?_
  refine jv_iload_n (jv_dk t_X13_forkNow (k := 1) rfl) rfl rfl ?_
  refine jv_iconst (v := 5) (jv_dk t_X13_forkNow (k := 2) rfl) (by decide) ?_
  refine jv_callV (en' := jeI) (pv := jpI) (As := [.int (a1), .int (5)]) (S := []) (jv_dk t_X13_forkNow (k := 3) rfl) (fun _ => rfl) (Or.inl lk_X13_205) me_X13_of mv_X13_of ⟨by decide, by decide⟩ rfl rfl rfl (Nat.le_of_ble_eq_true rfl) (P_X13_of X a0 a1 5 h) (fun v1 h2 => ?_)
  show jv_O X M_X13_forkNow _ jeI 6 [some (.ref (a0)), some (.int (a1)), none, none, none, none, none] [.int (v1)] h2 _
  refine jv_istore_n (L' := [some (.ref (a0)), some (.int (a1)), some (.int (v1)), none, none, none, none]) (jv_dk t_X13_forkNow (k := 4) rfl) rfl (Nat.le_of_ble_eq_true rfl) rfl ?_
  refine jv_iconst (v := 0) (jv_dk t_X13_forkNow (k := 5) rfl) (by decide) ?_
  refine jv_istore_n (L' := [some (.ref (a0)), some (.int (a1)), some (.int (v1)), some (.int (0)), none, none, none]) (jv_dk t_X13_forkNow (k := 6) rfl) rfl (Nat.le_of_ble_eq_true rfl) rfl ?_
  refine o_f_X13_forkNow_h9 (fun y8 y9 y10 y11 h7 => ?_) _ _ _ _ _ 
  show jv_O X M_X13_forkNow _ jeI 31 [some (.ref (y8)), some (.int (y9)), some (.int (y10)), some (.int (y11)), none, none, none] [] h7 _
  exact o_f_X13_forkNow_b31 _ _ _ _ _ 
