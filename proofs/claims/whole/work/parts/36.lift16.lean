def t0_X13_shared : List (Nat × Instr × Nat) := [(0, .aload_n 0, 1), (1, .iconst 0, 1), (2, .putfield 96, 3), (5, .aload_n 0, 1), (6, .iconst 1, 1), (7, .iload_n 1, 1), (8, .invokevirtual 254, 3), (11, .ifCond .eq 12, 3), (14, .aload_n 0, 1), (15, .iconst 1, 1), (16, .iload_n 2, 1), (17, .invokevirtual 254, 3), (20, .ifCond .ne 9, 3), (23, .aload_n 0, 1), (24, .iconst 1, 1), (25, .invokevirtual 185, 3), (28, .ireturn, 1), (29, .iconst 0, 1), (30, .istore_n 3, 1), (31, .iconst 0, 1), (32, .istore 4, 2), (34, .iload 4, 2), (36, .bipush 100, 2), (38, .if_icmp .ge 41, 3), (41, .iload_n 3, 1), (42, .aload_n 0, 1), (43, .iload_n 1, 1), (44, .iload 4, 2), (46, .invokevirtual 264, 3), (49, .ldc 227, 2), (51, .if_icmp .eq 19, 3), (54, .aload_n 0, 1), (55, .iload_n 2, 1), (56, .iload 4, 2), (58, .invokevirtual 264, 3), (61, .ldc 227, 2), (63, .if_icmp .eq 7, 3), (66, .iconst 1, 1), (67, .goto 4, 3), (70, .iconst 0, 1), (71, .iadd, 1), (72, .istore_n 3, 1), (73, .iinc 4 1, 3), (76, .goto (-42), 3), (79, .iload_n 3, 1), (80, .ireturn, 1)]
theorem t_X13_shared : jv_dec cX13_shared t0_X13_shared = true := by decide +kernel
def M_X13_shared : jm := (yX13_shared, cX13_shared, 5, (some .int), 4, 93, [])
def f_X13_shared_b23 (x0 : Nat) (h : jh) : Option (Int32 × jh) :=
  cV h x0 11 (f_X13_fail x0 1 h) fun v5 h6 =>
  some (v5, h6)
theorem o_f_X13_shared_b23 {X : jx} {b0 : Nat × Nat} (x0 : Nat) (h : jh) : jv_O X M_X13_shared b0 jeI 23 [some (.ref (x0)), none, none, none, none] [] h (f_X13_shared_b23 x0 h) := by
  unfold f_X13_shared_b23
  refine jv_aload_n (jv_dk t_X13_shared (k := 13) rfl) rfl rfl (Or.inr ⟨_, rfl⟩) ?_
  refine jv_iconst (v := 1) (jv_dk t_X13_shared (k := 14) rfl) (by decide) ?_
  refine jv_callV (en' := jeI) (pv := jpI) (As := [.int (1)]) (S := []) (jv_dk t_X13_shared (k := 15) rfl) (fun _ => rfl) (Or.inl lk_X13_185) me_X13_fail mv_X13_fail ⟨by decide, by decide⟩ rfl rfl rfl (Nat.le_of_ble_eq_true rfl) (P_X13_fail X x0 1 h) (fun v5 h6 => ?_)
  show jv_O X M_X13_shared _ jeI 28 [some (.ref (x0)), none, none, none, none] [.int (v5)] h6 _
  exact jv_iret (ty := .int) (jv_dk t_X13_shared (k := 16) rfl) rfl rfl rfl
def f_X13_shared_h34 (K34 : Int32 → jh → Option (Int32 × jh)) (R34 : Nat → Int32 → Int32 → Int32 → Int32 → jh → Option (Int32 × jh)) (x0 : Nat) (x1 : Int32) (x2 : Int32) (x3 : Int32) (x4 : Int32) (h : jh) : Option (Int32 × jh) :=
  (if 100 ≤ x4 then
  K34 x3 h
  else
  cV h x0 11 (f_X13_fromRoot x0 x1 x4 h) fun v11 h12 =>
  (if v11 = 65534 then
  R34 x0 x1 x2 (x3 + 0) (x4 + 1) h12
  else
  cV h12 x0 11 (f_X13_fromRoot x0 x2 x4 h12) fun v14 h15 =>
  (if v14 = 65534 then
  R34 x0 x1 x2 (x3 + 0) (x4 + 1) h15
  else
  R34 x0 x1 x2 (x3 + 1) (x4 + 1) h15)))
theorem o_f_X13_shared_h34 {X : jx} {b0 : Nat × Nat} {K34 : Int32 → jh → Option (Int32 × jh)} (hK34 : ∀ (x3 : Int32) (h : jh), jv_O X M_X13_shared b0 jeI 79 [none, none, none, some (.int (x3)), none] [] h (K34 x3 h)) : ∀ (x0 : Nat) (x1 : Int32) (x2 : Int32) (x3 : Int32) (x4 : Int32) (h : jh), jv_O X M_X13_shared b0 jeI 34 [some (.ref (x0)), some (.int (x1)), some (.int (x2)), some (.int (x3)), some (.int (x4))] [] h (jlp5 (f_X13_shared_h34 K34) jfu x0 x1 x2 x3 x4 h) := by
  refine jlp5_ok (P := fun x0 x1 x2 x3 x4 h o => jv_O X M_X13_shared b0 jeI 34 [some (.ref (x0)), some (.int (x1)), some (.int (x2)), some (.int (x3)), some (.int (x4))] [] h o) (fun R34 hR34 => ?_) (fun _ _ _ _ _ _  => jv_none rfl) jfu
  intro x0 x1 x2 x3 x4 h
  unfold f_X13_shared_h34
  refine jv_iload (jv_dk t_X13_shared (k := 21) rfl) rfl ?_
  refine jv_bipush (v := 100) (jv_dk t_X13_shared (k := 22) rfl) (by decide) ?_
  refine jv_icmp_ge (tgt := 79) (jv_dk t_X13_shared (k := 23) rfl) rfl (fun c10 => ?_) (fun c10 => ?_)
  · refine jv_le_row (jv_le_n (jv_le_n (jv_le_n (jv_le_s (jv_le_n (jv_le_nil)))))) ?_
    exact hK34 _ _ 
  · show jv_O _ _ _ _ 41 _ _ _ _
    refine jv_iload_n (jv_dk t_X13_shared (k := 24) rfl) rfl rfl ?_
    refine jv_aload_n (jv_dk t_X13_shared (k := 25) rfl) rfl rfl (Or.inr ⟨_, rfl⟩) ?_
    refine jv_iload_n (jv_dk t_X13_shared (k := 26) rfl) rfl rfl ?_
    refine jv_iload (jv_dk t_X13_shared (k := 27) rfl) rfl ?_
    refine jv_callV (en' := jeI) (pv := jpI) (As := [.int (x1), .int (x4)]) (S := [.int (x3)]) (jv_dk t_X13_shared (k := 28) rfl) (fun _ => rfl) (Or.inl lk_X13_264) me_X13_fromRoot mv_X13_fromRoot ⟨by decide, by decide⟩ rfl rfl rfl (Nat.le_of_ble_eq_true rfl) (P_X13_fromRoot X x0 x1 x4 h) (fun v11 h12 => ?_)
    show jv_O X M_X13_shared _ jeI 49 [some (.ref (x0)), some (.int (x1)), some (.int (x2)), some (.int (x3)), some (.int (x4))] [.int (v11), .int (x3)] h12 _
    refine jv_ldc (jv_dk t_X13_shared (k := 29) rfl) cn_X13_227 ?_
    refine jv_icmp_eq (tgt := 70) (jv_dk t_X13_shared (k := 30) rfl) rfl (fun c13 => ?_) (fun c13 => ?_)
    · refine jv_iconst (v := 0) (jv_dk t_X13_shared (k := 39) rfl) (by decide) ?_
      refine jv_iadd (jv_dk t_X13_shared (k := 40) rfl) ?_
      refine jv_istore_n (L' := [some (.ref (x0)), some (.int (x1)), some (.int (x2)), some (.int (x3 + 0)), some (.int (x4))]) (jv_dk t_X13_shared (k := 41) rfl) rfl (Nat.le_of_ble_eq_true rfl) rfl ?_
      refine jv_iinc (v := 1) (L' := [some (.ref (x0)), some (.int (x1)), some (.int (x2)), some (.int (x3 + 0)), some (.int (x4 + 1))]) (jv_dk t_X13_shared (k := 42) rfl) rfl (by decide) rfl ?_
      refine jv_goto (tgt := 34) (jv_dk t_X13_shared (k := 43) rfl) rfl ?_
      exact hR34 _ _ _ _ _ _ 
    · show jv_O _ _ _ _ 54 _ _ _ _
      refine jv_aload_n (jv_dk t_X13_shared (k := 31) rfl) rfl rfl (Or.inr ⟨_, rfl⟩) ?_
      refine jv_iload_n (jv_dk t_X13_shared (k := 32) rfl) rfl rfl ?_
      refine jv_iload (jv_dk t_X13_shared (k := 33) rfl) rfl ?_
      refine jv_callV (en' := jeI) (pv := jpI) (As := [.int (x2), .int (x4)]) (S := [.int (x3)]) (jv_dk t_X13_shared (k := 34) rfl) (fun _ => rfl) (Or.inl lk_X13_264) me_X13_fromRoot mv_X13_fromRoot ⟨by decide, by decide⟩ rfl rfl rfl (Nat.le_of_ble_eq_true rfl) (P_X13_fromRoot X x0 x2 x4 h12) (fun v14 h15 => ?_)
      show jv_O X M_X13_shared _ jeI 61 [some (.ref (x0)), some (.int (x1)), some (.int (x2)), some (.int (x3)), some (.int (x4))] [.int (v14), .int (x3)] h15 _
      refine jv_ldc (jv_dk t_X13_shared (k := 35) rfl) cn_X13_227 ?_
      refine jv_icmp_eq (tgt := 70) (jv_dk t_X13_shared (k := 36) rfl) rfl (fun c16 => ?_) (fun c16 => ?_)
      · refine jv_iconst (v := 0) (jv_dk t_X13_shared (k := 39) rfl) (by decide) ?_
        refine jv_iadd (jv_dk t_X13_shared (k := 40) rfl) ?_
        refine jv_istore_n (L' := [some (.ref (x0)), some (.int (x1)), some (.int (x2)), some (.int (x3 + 0)), some (.int (x4))]) (jv_dk t_X13_shared (k := 41) rfl) rfl (Nat.le_of_ble_eq_true rfl) rfl ?_
        refine jv_iinc (v := 1) (L' := [some (.ref (x0)), some (.int (x1)), some (.int (x2)), some (.int (x3 + 0)), some (.int (x4 + 1))]) (jv_dk t_X13_shared (k := 42) rfl) rfl (by decide) rfl ?_
        refine jv_goto (tgt := 34) (jv_dk t_X13_shared (k := 43) rfl) rfl ?_
        exact hR34 _ _ _ _ _ _ 
      · show jv_O _ _ _ _ 66 _ _ _ _
        refine jv_iconst (v := 1) (jv_dk t_X13_shared (k := 37) rfl) (by decide) ?_
        refine jv_goto (tgt := 71) (jv_dk t_X13_shared (k := 38) rfl) rfl ?_
        refine jv_iadd (jv_dk t_X13_shared (k := 40) rfl) ?_
        refine jv_istore_n (L' := [some (.ref (x0)), some (.int (x1)), some (.int (x2)), some (.int (x3 + 1)), some (.int (x4))]) (jv_dk t_X13_shared (k := 41) rfl) rfl (Nat.le_of_ble_eq_true rfl) rfl ?_
        refine jv_iinc (v := 1) (L' := [some (.ref (x0)), some (.int (x1)), some (.int (x2)), some (.int (x3 + 1)), some (.int (x4 + 1))]) (jv_dk t_X13_shared (k := 42) rfl) rfl (by decide) rfl ?_
        refine jv_goto (tgt := 34) (jv_dk t_X13_shared (k := 43) rfl) rfl ?_
        exact hR34 _ _ _ _ _ _ 
def f_X13_shared (a0 : Nat) (a1 : Int32) (a2 : Int32) (h : jh) : Option (Int32 × jh) :=
  pV h a0 11 1 (.int (0)) fun h1 =>
  cV h1 a0 11 (f_X13_isSpace a0 1 a1 h1) fun v2 h3 =>
  (if v2 = 0 then
  f_X13_shared_b23 a0 h3
  else
  cV h3 a0 11 (f_X13_isSpace a0 1 a2 h3) fun v7 h8 =>
  (if ¬ v7 = 0 then
  jlp5 (f_X13_shared_h34 (fun y18 h17 =>
  some (y18, h17))) jfu a0 a1 a2 0 0 h8
  else
  f_X13_shared_b23 a0 h8))
theorem P_X13_shared (X : jx) (a0 : Nat) (a1 : Int32) (a2 : Int32) (h : jh) : jv_P X M_X13_shared jeI [.ref (a0), .int (a1), .int (a2)] h (f_X13_shared a0 a1 a2 h) := by
  refine jv_P.of (by decide) rfl (by simp [Value.category]) (Nat.le_of_ble_eq_true rfl) ?_
  show jv_O X M_X13_shared (h.1, h.2.1) jeI 0 [some (.ref (a0)), some (.int (a1)), some (.int (a2)), none, none] [] h (f_X13_shared a0 a1 a2 h)
  unfold f_X13_shared
  refine jv_aload_n (jv_dk t_X13_shared (k := 0) rfl) rfl rfl (Or.inr ⟨_, rfl⟩) ?_
  refine jv_iconst (v := 0) (jv_dk t_X13_shared (k := 1) rfl) (by decide) ?_
  refine jv_pV (jv_dk t_X13_shared (k := 2) rfl) fl_X13_96 kX13 (Or.inl rfl) rfl rfl rfl (fun h1 => ?_)
  refine jv_aload_n (jv_dk t_X13_shared (k := 3) rfl) rfl rfl (Or.inr ⟨_, rfl⟩) ?_
  refine jv_iconst (v := 1) (jv_dk t_X13_shared (k := 4) rfl) (by decide) ?_
  refine jv_iload_n (jv_dk t_X13_shared (k := 5) rfl) rfl rfl ?_
  refine jv_callV (en' := jeI) (pv := jpI) (As := [.int (1), .int (a1)]) (S := []) (jv_dk t_X13_shared (k := 6) rfl) (fun _ => rfl) (Or.inl lk_X13_254) me_X13_isSpace mv_X13_isSpace ⟨by decide, by decide⟩ rfl rfl rfl (Nat.le_of_ble_eq_true rfl) (P_X13_isSpace X a0 1 a1 h1) (fun v2 h3 => ?_)
  show jv_O X M_X13_shared _ jeI 11 [some (.ref (a0)), some (.int (a1)), some (.int (a2)), none, none] [.int (v2)] h3 _
  refine jv_if_eq (tgt := 23) (jv_dk t_X13_shared (k := 7) rfl) rfl (fun c4 => ?_) (fun c4 => ?_)
  · refine jv_le_row (jv_le_s (jv_le_n (jv_le_n (jv_le_n (jv_le_n (jv_le_nil)))))) ?_
    exact o_f_X13_shared_b23 _ _ 
  · show jv_O _ _ _ _ 14 _ _ _ _
    refine jv_aload_n (jv_dk t_X13_shared (k := 8) rfl) rfl rfl (Or.inr ⟨_, rfl⟩) ?_
    refine jv_iconst (v := 1) (jv_dk t_X13_shared (k := 9) rfl) (by decide) ?_
    refine jv_iload_n (jv_dk t_X13_shared (k := 10) rfl) rfl rfl ?_
    refine jv_callV (en' := jeI) (pv := jpI) (As := [.int (1), .int (a2)]) (S := []) (jv_dk t_X13_shared (k := 11) rfl) (fun _ => rfl) (Or.inl lk_X13_254) me_X13_isSpace mv_X13_isSpace ⟨by decide, by decide⟩ rfl rfl rfl (Nat.le_of_ble_eq_true rfl) (P_X13_isSpace X a0 1 a2 h3) (fun v7 h8 => ?_)
    show jv_O X M_X13_shared _ jeI 20 [some (.ref (a0)), some (.int (a1)), some (.int (a2)), none, none] [.int (v7)] h8 _
    refine jv_if_ne (tgt := 29) (jv_dk t_X13_shared (k := 12) rfl) rfl (fun c9 => ?_) (fun c9 => ?_)
    · refine jv_iconst (v := 0) (jv_dk t_X13_shared (k := 17) rfl) (by decide) ?_
      refine jv_istore_n (L' := [some (.ref (a0)), some (.int (a1)), some (.int (a2)), some (.int (0)), none]) (jv_dk t_X13_shared (k := 18) rfl) rfl (Nat.le_of_ble_eq_true rfl) rfl ?_
      refine jv_iconst (v := 0) (jv_dk t_X13_shared (k := 19) rfl) (by decide) ?_
      refine jv_istore (L' := [some (.ref (a0)), some (.int (a1)), some (.int (a2)), some (.int (0)), some (.int (0))]) (jv_dk t_X13_shared (k := 20) rfl) (Nat.le_of_ble_eq_true rfl) rfl ?_
      refine o_f_X13_shared_h34 (fun y18 h17 => ?_) _ _ _ _ _ _ 
      show jv_O X M_X13_shared _ jeI 79 [none, none, none, some (.int (y18)), none] [] h17 _
      refine jv_iload_n (jv_dk t_X13_shared (k := 44) rfl) rfl rfl ?_
      exact jv_iret (ty := .int) (jv_dk t_X13_shared (k := 45) rfl) rfl rfl rfl
    · show jv_O _ _ _ _ 23 _ _ _ _
      refine jv_le_row (jv_le_s (jv_le_n (jv_le_n (jv_le_n (jv_le_n (jv_le_nil)))))) ?_
      exact o_f_X13_shared_b23 _ _ 
def t0_X13_steps : List (Nat × Instr × Nat) := [(0, .aload_n 0, 1), (1, .iconst 0, 1), (2, .putfield 96, 3), (5, .aload_n 0, 1), (6, .iload_n 1, 1), (7, .invokevirtual 289, 3), (10, .ifCond .eq 12, 3), (13, .aload_n 0, 1), (14, .iconst 2, 1), (15, .iload_n 2, 1), (16, .invokevirtual 254, 3), (19, .ifCond .ne 9, 3), (22, .aload_n 0, 1), (23, .iconst 1, 1), (24, .invokevirtual 185, 3), (27, .ireturn, 1), (28, .aload_n 0, 1), (29, .iload_n 1, 1), (30, .invokevirtual 368, 3), (33, .aload_n 0, 1), (34, .iload_n 2, 1), (35, .invokevirtual 371, 3), (38, .ireturn, 1)]
theorem t_X13_steps : jv_dec cX13_steps t0_X13_steps = true := by decide +kernel
def M_X13_steps : jm := (yX13_steps, cX13_steps, 3, (some .int), 5, 122, [])
def f_X13_steps_b22 (x0 : Nat) (h : jh) : Option (Int32 × jh) :=
  cV h x0 11 (f_X13_fail x0 1 h) fun v5 h6 =>
  some (v5, h6)
theorem o_f_X13_steps_b22 {X : jx} {b0 : Nat × Nat} (x0 : Nat) (h : jh) : jv_O X M_X13_steps b0 jeI 22 [some (.ref (x0)), none, none] [] h (f_X13_steps_b22 x0 h) := by
  unfold f_X13_steps_b22
  refine jv_aload_n (jv_dk t_X13_steps (k := 12) rfl) rfl rfl (Or.inr ⟨_, rfl⟩) ?_
  refine jv_iconst (v := 1) (jv_dk t_X13_steps (k := 13) rfl) (by decide) ?_
  refine jv_callV (en' := jeI) (pv := jpI) (As := [.int (1)]) (S := []) (jv_dk t_X13_steps (k := 14) rfl) (fun _ => rfl) (Or.inl lk_X13_185) me_X13_fail mv_X13_fail ⟨by decide, by decide⟩ rfl rfl rfl (Nat.le_of_ble_eq_true rfl) (P_X13_fail X x0 1 h) (fun v5 h6 => ?_)
  show jv_O X M_X13_steps _ jeI 27 [some (.ref (x0)), none, none] [.int (v5)] h6 _
  exact jv_iret (ty := .int) (jv_dk t_X13_steps (k := 15) rfl) rfl rfl rfl
def f_X13_steps (a0 : Nat) (a1 : Int32) (a2 : Int32) (h : jh) : Option (Int32 × jh) :=
  pV h a0 11 1 (.int (0)) fun h1 =>
  cV h1 a0 11 (f_X13_isThere a0 a1 h1) fun v2 h3 =>
  (if v2 = 0 then
  f_X13_steps_b22 a0 h3
  else
  cV h3 a0 11 (f_X13_isSpace a0 2 a2 h3) fun v7 h8 =>
  (if ¬ v7 = 0 then
  cV h8 a0 11 (f_X13_tellSteps a0 a1 h8) fun _ h10 =>
  cV h10 a0 11 (f_X13_stepsTo a0 a2 h10) fun v11 h12 =>
  some (v11, h12)
  else
  f_X13_steps_b22 a0 h8))
theorem P_X13_steps (X : jx) (a0 : Nat) (a1 : Int32) (a2 : Int32) (h : jh) : jv_P X M_X13_steps jeI [.ref (a0), .int (a1), .int (a2)] h (f_X13_steps a0 a1 a2 h) := by
  refine jv_P.of (by decide) rfl (by simp [Value.category]) (Nat.le_of_ble_eq_true rfl) ?_
  show jv_O X M_X13_steps (h.1, h.2.1) jeI 0 [some (.ref (a0)), some (.int (a1)), some (.int (a2))] [] h (f_X13_steps a0 a1 a2 h)
  unfold f_X13_steps
  refine jv_aload_n (jv_dk t_X13_steps (k := 0) rfl) rfl rfl (Or.inr ⟨_, rfl⟩) ?_
  refine jv_iconst (v := 0) (jv_dk t_X13_steps (k := 1) rfl) (by decide) ?_
  refine jv_pV (jv_dk t_X13_steps (k := 2) rfl) fl_X13_96 kX13 (Or.inl rfl) rfl rfl rfl (fun h1 => ?_)
  refine jv_aload_n (jv_dk t_X13_steps (k := 3) rfl) rfl rfl (Or.inr ⟨_, rfl⟩) ?_
  refine jv_iload_n (jv_dk t_X13_steps (k := 4) rfl) rfl rfl ?_
  refine jv_callV (en' := jeI) (pv := jpI) (As := [.int (a1)]) (S := []) (jv_dk t_X13_steps (k := 5) rfl) (fun _ => rfl) (Or.inl lk_X13_289) me_X13_isThere mv_X13_isThere ⟨by decide, by decide⟩ rfl rfl rfl (Nat.le_of_ble_eq_true rfl) (P_X13_isThere X a0 a1 h1) (fun v2 h3 => ?_)
  show jv_O X M_X13_steps _ jeI 10 [some (.ref (a0)), some (.int (a1)), some (.int (a2))] [.int (v2)] h3 _
  refine jv_if_eq (tgt := 22) (jv_dk t_X13_steps (k := 6) rfl) rfl (fun c4 => ?_) (fun c4 => ?_)
  · refine jv_le_row (jv_le_s (jv_le_n (jv_le_n (jv_le_nil)))) ?_
    exact o_f_X13_steps_b22 _ _ 
  · show jv_O _ _ _ _ 13 _ _ _ _
    refine jv_aload_n (jv_dk t_X13_steps (k := 7) rfl) rfl rfl (Or.inr ⟨_, rfl⟩) ?_
    refine jv_iconst (v := 2) (jv_dk t_X13_steps (k := 8) rfl) (by decide) ?_
    refine jv_iload_n (jv_dk t_X13_steps (k := 9) rfl) rfl rfl ?_
    refine jv_callV (en' := jeI) (pv := jpI) (As := [.int (2), .int (a2)]) (S := []) (jv_dk t_X13_steps (k := 10) rfl) (fun _ => rfl) (Or.inl lk_X13_254) me_X13_isSpace mv_X13_isSpace ⟨by decide, by decide⟩ rfl rfl rfl (Nat.le_of_ble_eq_true rfl) (P_X13_isSpace X a0 2 a2 h3) (fun v7 h8 => ?_)
    show jv_O X M_X13_steps _ jeI 19 [some (.ref (a0)), some (.int (a1)), some (.int (a2))] [.int (v7)] h8 _
    refine jv_if_ne (tgt := 28) (jv_dk t_X13_steps (k := 11) rfl) rfl (fun c9 => ?_) (fun c9 => ?_)
    · refine jv_aload_n (jv_dk t_X13_steps (k := 16) rfl) rfl rfl (Or.inr ⟨_, rfl⟩) ?_
      refine jv_iload_n (jv_dk t_X13_steps (k := 17) rfl) rfl rfl ?_
      refine jv_callV (en' := jeV) (pv := jpV) (As := [.int (a1)]) (S := []) (jv_dk t_X13_steps (k := 18) rfl) (fun _ => rfl) (Or.inl lk_X13_368) me_X13_tellSteps mv_X13_tellSteps ⟨by decide, by decide⟩ rfl rfl rfl (Nat.le_of_ble_eq_true rfl) (P_X13_tellSteps X a0 a1 h8) (fun _ h10 => ?_)
      show jv_O X M_X13_steps _ jeI 33 [some (.ref (a0)), some (.int (a1)), some (.int (a2))] [] h10 _
      refine jv_aload_n (jv_dk t_X13_steps (k := 19) rfl) rfl rfl (Or.inr ⟨_, rfl⟩) ?_
      refine jv_iload_n (jv_dk t_X13_steps (k := 20) rfl) rfl rfl ?_
      refine jv_callV (en' := jeI) (pv := jpI) (As := [.int (a2)]) (S := []) (jv_dk t_X13_steps (k := 21) rfl) (fun _ => rfl) (Or.inl lk_X13_371) me_X13_stepsTo mv_X13_stepsTo ⟨by decide, by decide⟩ rfl rfl rfl (Nat.le_of_ble_eq_true rfl) (P_X13_stepsTo X a0 a2 h10) (fun v11 h12 => ?_)
      show jv_O X M_X13_steps _ jeI 38 [some (.ref (a0)), some (.int (a1)), some (.int (a2))] [.int (v11)] h12 _
      exact jv_iret (ty := .int) (jv_dk t_X13_steps (k := 22) rfl) rfl rfl rfl
    · show jv_O _ _ _ _ 22 _ _ _ _
      refine jv_le_row (jv_le_s (jv_le_n (jv_le_n (jv_le_nil)))) ?_
      exact o_f_X13_steps_b22 _ _ 
def t0_X13_note : List (Nat × Instr × Nat) := [(0, .aload_n 0, 1), (1, .iconst 0, 1), (2, .putfield 96, 3), (5, .aload_n 0, 1), (6, .getfield 198, 3), (9, .bipush 8, 2), (11, .if_icmp .eq 22, 3), (14, .aload_n 0, 1), (15, .iconst 0, 1), (16, .iload_n 1, 1), (17, .invokevirtual 254, 3), (20, .ifCond .eq 13, 3), (23, .iload_n 2, 1), (24, .iconst 1, 1), (25, .bipush 20, 2), (27, .invokestatic 169, 3), (30, .ifCond .ne 9, 3), (33, .aload_n 0, 1), (34, .iconst 2, 1), (35, .invokevirtual 327, 3), (38, .ireturn, 1), (39, .aload_n 0, 1), (40, .getfield 66, 3), (43, .aload_n 0, 1), (44, .getfield 198, 3), (47, .iload_n 1, 1), (48, .iastore, 1), (49, .aload_n 0, 1), (50, .getfield 69, 3), (53, .aload_n 0, 1), (54, .getfield 198, 3), (57, .iload_n 2, 1), (58, .iastore, 1), (59, .aload_n 0, 1), (60, .getfield 72, 3), (63, .aload_n 0, 1), (64, .getfield 198, 3), (67, .iload_n 3, 1), (68, .ifCond .eq 7, 3), (71, .iconst 1, 1), (72, .goto 4, 3), (75, .iconst 0, 1), (76, .iastore, 1), (77, .aload_n 0, 1), (78, .dup, 1), (79, .getfield 198, 3), (82, .iconst 1, 1), (83, .iadd, 1), (84, .putfield 198, 3), (87, .aload_n 0, 1), (88, .getfield 198, 3), (91, .ireturn, 1)]
theorem t_X13_note : jv_dec cX13_note t0_X13_note = true := by decide +kernel
def M_X13_note : jm := (yX13_note, cX13_note, 4, (some .int), 2, 44, [])
def f_X13_note_b33 (x0 : Nat) (h : jh) : Option (Int32 × jh) :=
  cV h x0 11 (f_X13_refuse x0 2 h) fun v4 h5 =>
  some (v4, h5)
theorem o_f_X13_note_b33 {X : jx} {b0 : Nat × Nat} (x0 : Nat) (h : jh) : jv_O X M_X13_note b0 jeI 33 [some (.ref (x0)), none, none, none] [] h (f_X13_note_b33 x0 h) := by
  unfold f_X13_note_b33
  refine jv_aload_n (jv_dk t_X13_note (k := 17) rfl) rfl rfl (Or.inr ⟨_, rfl⟩) ?_
  refine jv_iconst (v := 2) (jv_dk t_X13_note (k := 18) rfl) (by decide) ?_
  refine jv_callV (en' := jeI) (pv := jpI) (As := [.int (2)]) (S := []) (jv_dk t_X13_note (k := 19) rfl) (fun _ => rfl) (Or.inl lk_X13_327) me_X13_refuse mv_X13_refuse ⟨by decide, by decide⟩ rfl rfl rfl (Nat.le_of_ble_eq_true rfl) (P_X13_refuse X x0 2 h) (fun v4 h5 => ?_)
  show jv_O X M_X13_note _ jeI 38 [some (.ref (x0)), none, none, none] [.int (v4)] h5 _
  exact jv_iret (ty := .int) (jv_dk t_X13_note (k := 20) rfl) rfl rfl rfl
def f_X13_note_b76 (x0 : Nat) (s0 : Int32) (s1 : Int32) (s2 : Nat) (h : jh) : Option (Int32 × jh) :=
  sI h s2 s1 s0 fun h21 =>
  gI h21 x0 11 22 fun v22 =>
  pV h21 x0 11 22 (.int (v22 + 1)) fun h23 =>
  gI h23 x0 11 22 fun v24 =>
  some (v24, h23)
theorem o_f_X13_note_b76 {X : jx} {b0 : Nat × Nat} (x0 : Nat) (s0 : Int32) (s1 : Int32) (s2 : Nat) (h : jh) : jv_O X M_X13_note b0 jeI 76 [some (.ref (x0)), none, none, none] [.int (s0), .int (s1), .ref (s2)] h (f_X13_note_b76 x0 s0 s1 s2 h) := by
  unfold f_X13_note_b76
  refine jv_iastore (jv_dk t_X13_note (k := 42) rfl) (fun h21 => ?_)
  refine jv_aload_n (jv_dk t_X13_note (k := 43) rfl) rfl rfl (Or.inr ⟨_, rfl⟩) ?_
  refine jv_dup (jv_dk t_X13_note (k := 44) rfl) rfl ?_
  refine jv_gI (jv_dk t_X13_note (k := 45) rfl) fl_X13_198 (fun v22 => ?_)
  refine jv_iconst (v := 1) (jv_dk t_X13_note (k := 46) rfl) (by decide) ?_
  refine jv_iadd (jv_dk t_X13_note (k := 47) rfl) ?_
  refine jv_pV (jv_dk t_X13_note (k := 48) rfl) fl_X13_198 kX13 (Or.inl rfl) rfl rfl rfl (fun h23 => ?_)
  refine jv_aload_n (jv_dk t_X13_note (k := 49) rfl) rfl rfl (Or.inr ⟨_, rfl⟩) ?_
  refine jv_gI (jv_dk t_X13_note (k := 50) rfl) fl_X13_198 (fun v24 => ?_)
  exact jv_iret (ty := .int) (jv_dk t_X13_note (k := 51) rfl) rfl rfl rfl
def f_X13_note (a0 : Nat) (a1 : Int32) (a2 : Int32) (a3 : Int32) (h : jh) : Option (Int32 × jh) :=
  pV h a0 11 1 (.int (0)) fun h1 =>
  gI h1 a0 11 22 fun v2 =>
  (if v2 = 8 then
  f_X13_note_b33 a0 h1
  else
  cV h1 a0 11 (f_X13_isSpace a0 0 a1 h1) fun v6 h7 =>
  (if v6 = 0 then
  f_X13_note_b33 a0 h7
  else
  bd (f_X13_isIn a2 1 20 h7) fun v9 h10 =>
  (if ¬ v9 = 0 then
  gR h10 a0 11 23 fun v12 =>
  gI h10 a0 11 22 fun v13 =>
  sI h10 v12 v13 a1 fun h14 =>
  gR h14 a0 11 24 fun v15 =>
  gI h14 a0 11 22 fun v16 =>
  sI h14 v15 v16 a2 fun h17 =>
  gR h17 a0 11 25 fun v18 =>
  gI h17 a0 11 22 fun v19 =>
  (if a3 = 0 then
  f_X13_note_b76 a0 0 v19 v18 h17
  else
  f_X13_note_b76 a0 1 v19 v18 h17)
  else
  f_X13_note_b33 a0 h10)))
theorem P_X13_note (X : jx) (a0 : Nat) (a1 : Int32) (a2 : Int32) (a3 : Int32) (h : jh) : jv_P X M_X13_note jeI [.ref (a0), .int (a1), .int (a2), .int (a3)] h (f_X13_note a0 a1 a2 a3 h) := by
  refine jv_P.of (by decide) rfl (by simp [Value.category]) (Nat.le_of_ble_eq_true rfl) ?_
  show jv_O X M_X13_note (h.1, h.2.1) jeI 0 [some (.ref (a0)), some (.int (a1)), some (.int (a2)), some (.int (a3))] [] h (f_X13_note a0 a1 a2 a3 h)
  unfold f_X13_note
  refine jv_aload_n (jv_dk t_X13_note (k := 0) rfl) rfl rfl (Or.inr ⟨_, rfl⟩) ?_
  refine jv_iconst (v := 0) (jv_dk t_X13_note (k := 1) rfl) (by decide) ?_
  refine jv_pV (jv_dk t_X13_note (k := 2) rfl) fl_X13_96 kX13 (Or.inl rfl) rfl rfl rfl (fun h1 => ?_)
  refine jv_aload_n (jv_dk t_X13_note (k := 3) rfl) rfl rfl (Or.inr ⟨_, rfl⟩) ?_
  refine jv_gI (jv_dk t_X13_note (k := 4) rfl) fl_X13_198 (fun v2 => ?_)
  refine jv_bipush (v := 8) (jv_dk t_X13_note (k := 5) rfl) (by decide) ?_
  refine jv_icmp_eq (tgt := 33) (jv_dk t_X13_note (k := 6) rfl) rfl (fun c3 => ?_) (fun c3 => ?_)
  · refine jv_le_row (jv_le_s (jv_le_n (jv_le_n (jv_le_n (jv_le_nil))))) ?_
    exact o_f_X13_note_b33 _ _ 
  · show jv_O _ _ _ _ 14 _ _ _ _
    refine jv_aload_n (jv_dk t_X13_note (k := 7) rfl) rfl rfl (Or.inr ⟨_, rfl⟩) ?_
    refine jv_iconst (v := 0) (jv_dk t_X13_note (k := 8) rfl) (by decide) ?_
    refine jv_iload_n (jv_dk t_X13_note (k := 9) rfl) rfl rfl ?_
    refine jv_callV (en' := jeI) (pv := jpI) (As := [.int (0), .int (a1)]) (S := []) (jv_dk t_X13_note (k := 10) rfl) (fun _ => rfl) (Or.inl lk_X13_254) me_X13_isSpace mv_X13_isSpace ⟨by decide, by decide⟩ rfl rfl rfl (Nat.le_of_ble_eq_true rfl) (P_X13_isSpace X a0 0 a1 h1) (fun v6 h7 => ?_)
    show jv_O X M_X13_note _ jeI 20 [some (.ref (a0)), some (.int (a1)), some (.int (a2)), some (.int (a3))] [.int (v6)] h7 _
    refine jv_if_eq (tgt := 33) (jv_dk t_X13_note (k := 11) rfl) rfl (fun c8 => ?_) (fun c8 => ?_)
    · refine jv_le_row (jv_le_s (jv_le_n (jv_le_n (jv_le_n (jv_le_nil))))) ?_
      exact o_f_X13_note_b33 _ _ 
    · show jv_O _ _ _ _ 23 _ _ _ _
      refine jv_iload_n (jv_dk t_X13_note (k := 12) rfl) rfl rfl ?_
      refine jv_iconst (v := 1) (jv_dk t_X13_note (k := 13) rfl) (by decide) ?_
      refine jv_bipush (v := 20) (jv_dk t_X13_note (k := 14) rfl) (by decide) ?_
      refine jv_callS (en' := jeI) (pv := jpI) (As := [.int (a2), .int (1), .int (20)]) (S := []) (jv_dk t_X13_note (k := 15) rfl) (fun _ => rfl) (Or.inl lk_X13_169) me_X13_isIn ms_X13_isIn ⟨by decide, by decide⟩ rfl rfl (Nat.le_of_ble_eq_true rfl) (P_X13_isIn X a2 1 20 h7) (fun v9 h10 => ?_)
      show jv_O X M_X13_note _ jeI 30 [some (.ref (a0)), some (.int (a1)), some (.int (a2)), some (.int (a3))] [.int (v9)] h10 _
      refine jv_if_ne (tgt := 39) (jv_dk t_X13_note (k := 16) rfl) rfl (fun c11 => ?_) (fun c11 => ?_)
      · refine jv_aload_n (jv_dk t_X13_note (k := 21) rfl) rfl rfl (Or.inr ⟨_, rfl⟩) ?_
        refine jv_gR (jv_dk t_X13_note (k := 22) rfl) fl_X13_66 (fun v12 => ?_)
        refine jv_aload_n (jv_dk t_X13_note (k := 23) rfl) rfl rfl (Or.inr ⟨_, rfl⟩) ?_
        refine jv_gI (jv_dk t_X13_note (k := 24) rfl) fl_X13_198 (fun v13 => ?_)
        refine jv_iload_n (jv_dk t_X13_note (k := 25) rfl) rfl rfl ?_
        refine jv_iastore (jv_dk t_X13_note (k := 26) rfl) (fun h14 => ?_)
        refine jv_aload_n (jv_dk t_X13_note (k := 27) rfl) rfl rfl (Or.inr ⟨_, rfl⟩) ?_
        refine jv_gR (jv_dk t_X13_note (k := 28) rfl) fl_X13_69 (fun v15 => ?_)
        refine jv_aload_n (jv_dk t_X13_note (k := 29) rfl) rfl rfl (Or.inr ⟨_, rfl⟩) ?_
        refine jv_gI (jv_dk t_X13_note (k := 30) rfl) fl_X13_198 (fun v16 => ?_)
        refine jv_iload_n (jv_dk t_X13_note (k := 31) rfl) rfl rfl ?_
        refine jv_iastore (jv_dk t_X13_note (k := 32) rfl) (fun h17 => ?_)
        refine jv_aload_n (jv_dk t_X13_note (k := 33) rfl) rfl rfl (Or.inr ⟨_, rfl⟩) ?_
        refine jv_gR (jv_dk t_X13_note (k := 34) rfl) fl_X13_72 (fun v18 => ?_)
        refine jv_aload_n (jv_dk t_X13_note (k := 35) rfl) rfl rfl (Or.inr ⟨_, rfl⟩) ?_
        refine jv_gI (jv_dk t_X13_note (k := 36) rfl) fl_X13_198 (fun v19 => ?_)
        refine jv_iload_n (jv_dk t_X13_note (k := 37) rfl) rfl rfl ?_
        refine jv_if_eq (tgt := 75) (jv_dk t_X13_note (k := 38) rfl) rfl (fun c20 => ?_) (fun c20 => ?_)
        · refine jv_iconst (v := 0) (jv_dk t_X13_note (k := 41) rfl) (by decide) ?_
          refine jv_le_row (jv_le_s (jv_le_n (jv_le_n (jv_le_n (jv_le_nil))))) ?_
          exact o_f_X13_note_b76 _ _ _ _ _ 
        · show jv_O _ _ _ _ 71 _ _ _ _
          refine jv_iconst (v := 1) (jv_dk t_X13_note (k := 39) rfl) (by decide) ?_
          refine jv_goto (tgt := 76) (jv_dk t_X13_note (k := 40) rfl) rfl ?_
          refine jv_le_row (jv_le_s (jv_le_n (jv_le_n (jv_le_n (jv_le_nil))))) ?_
          exact o_f_X13_note_b76 _ _ _ _ _ 
      · show jv_O _ _ _ _ 33 _ _ _ _
        refine jv_le_row (jv_le_s (jv_le_n (jv_le_n (jv_le_n (jv_le_nil))))) ?_
        exact o_f_X13_note_b33 _ _ 
def t0_X13_forget : List (Nat × Instr × Nat) := [(0, .aload_n 0, 1), (1, .iconst 0, 1), (2, .putfield 96, 3), (5, .aload_n 0, 1), (6, .iconst 0, 1), (7, .putfield 198, 3), (10, .return_, 1)]
theorem t_X13_forget : jv_dec cX13_forget t0_X13_forget = true := by decide +kernel
def M_X13_forget : jm := (yX13_forget, cX13_forget, 1, none, 0, 0, [])
def f_X13_forget (a0 : Nat) (h : jh) : Option (Unit × jh) :=
  pV h a0 11 1 (.int (0)) fun h1 =>
  pV h1 a0 11 22 (.int (0)) fun h2 =>
  some ((), h2)
theorem P_X13_forget (X : jx) (a0 : Nat) (h : jh) : jv_P X M_X13_forget jeV [.ref (a0)] h (f_X13_forget a0 h) := by
  refine jv_P.of (by decide) rfl (by simp [Value.category]) (Nat.le_of_ble_eq_true rfl) ?_
  show jv_O X M_X13_forget (h.1, h.2.1) jeV 0 [some (.ref (a0))] [] h (f_X13_forget a0 h)
  unfold f_X13_forget
  refine jv_aload_n (jv_dk t_X13_forget (k := 0) rfl) rfl rfl (Or.inr ⟨_, rfl⟩) ?_
  refine jv_iconst (v := 0) (jv_dk t_X13_forget (k := 1) rfl) (by decide) ?_
  refine jv_pV (jv_dk t_X13_forget (k := 2) rfl) fl_X13_96 kX13 (Or.inl rfl) rfl rfl rfl (fun h1 => ?_)
  refine jv_aload_n (jv_dk t_X13_forget (k := 3) rfl) rfl rfl (Or.inr ⟨_, rfl⟩) ?_
  refine jv_iconst (v := 0) (jv_dk t_X13_forget (k := 4) rfl) (by decide) ?_
  refine jv_pV (jv_dk t_X13_forget (k := 5) rfl) fl_X13_198 kX13 (Or.inl rfl) rfl rfl rfl (fun h2 => ?_)
  exact jv_vret (jv_dk t_X13_forget (k := 6) rfl) rfl rfl
def t0_X13_wouldBe : List (Nat × Instr × Nat) := [(0, .iload_n 1, 1), (1, .aload_n 0, 1), (2, .iconst 0, 1), (3, .invokevirtual 208, 3), (6, .if_icmp .ge 12, 3), (9, .aload_n 0, 1), (10, .iload_n 1, 1), (11, .iload_n 2, 1), (12, .invokevirtual 238, 3), (15, .goto 4, 3), (18, .iconst (-1), 1), (19, .istore 4, 2), (21, .iload 4, 2), (23, .iconst (-1), 1), (24, .if_icmp .eq 16, 3), (27, .iload_n 3, 1), (28, .iload 4, 2), (30, .ishr, 1), (31, .iconst 1, 1), (32, .iand, 1), (33, .ifCond .ne 7, 3), (36, .iconst 1, 1), (37, .goto 4, 3), (40, .iconst 0, 1), (41, .ireturn, 1)]
theorem t_X13_wouldBe : jv_dec cX13_wouldBe t0_X13_wouldBe = true := by decide +kernel
def M_X13_wouldBe : jm := (yX13_wouldBe, cX13_wouldBe, 5, (some .boolean), 3, 66, [])
def f_X13_wouldBe_b19 (x3 : Int32) (s0 : Int32) (h : jh) : Option (Int32 × jh) :=
  (if s0 = (-1) then
  some (0, h)
  else
  (if ¬ ((x3 >>> (s0 &&& 31)) &&& 1) = 0 then
  some (0, h)
  else
  some (1, h)))
theorem o_f_X13_wouldBe_b19 {X : jx} {b0 : Nat × Nat} (x3 : Int32) (s0 : Int32) (h : jh) : jv_O X M_X13_wouldBe b0 jeI 19 [none, none, none, some (.int (x3)), none] [.int (s0)] h (f_X13_wouldBe_b19 x3 s0 h) := by
  unfold f_X13_wouldBe_b19
  refine jv_istore (L' := [none, none, none, some (.int (x3)), some (.int (s0))]) (jv_dk t_X13_wouldBe (k := 11) rfl) (Nat.le_of_ble_eq_true rfl) rfl ?_
  refine jv_iload (jv_dk t_X13_wouldBe (k := 12) rfl) rfl ?_
  refine jv_iconst (v := (-1)) (jv_dk t_X13_wouldBe (k := 13) rfl) (by decide) ?_
  refine jv_icmp_eq (tgt := 40) (jv_dk t_X13_wouldBe (k := 14) rfl) rfl (fun c4 => ?_) (fun c4 => ?_)
  · refine jv_iconst (v := 0) (jv_dk t_X13_wouldBe (k := 23) rfl) (by decide) ?_
    exact jv_iret (ty := .boolean) (jv_dk t_X13_wouldBe (k := 24) rfl) rfl rfl rfl
  · show jv_O _ _ _ _ 27 _ _ _ _
    refine jv_iload_n (jv_dk t_X13_wouldBe (k := 15) rfl) rfl rfl ?_
    refine jv_iload (jv_dk t_X13_wouldBe (k := 16) rfl) rfl ?_
    refine jv_ishr (jv_dk t_X13_wouldBe (k := 17) rfl) ?_
    refine jv_iconst (v := 1) (jv_dk t_X13_wouldBe (k := 18) rfl) (by decide) ?_
    refine jv_iand (jv_dk t_X13_wouldBe (k := 19) rfl) ?_
    refine jv_if_ne (tgt := 40) (jv_dk t_X13_wouldBe (k := 20) rfl) rfl (fun c5 => ?_) (fun c5 => ?_)
    · refine jv_iconst (v := 0) (jv_dk t_X13_wouldBe (k := 23) rfl) (by decide) ?_
      exact jv_iret (ty := .boolean) (jv_dk t_X13_wouldBe (k := 24) rfl) rfl rfl rfl
    · show jv_O _ _ _ _ 36 _ _ _ _
      refine jv_iconst (v := 1) (jv_dk t_X13_wouldBe (k := 21) rfl) (by decide) ?_
      refine jv_goto (tgt := 41) (jv_dk t_X13_wouldBe (k := 22) rfl) rfl ?_
      exact jv_iret (ty := .boolean) (jv_dk t_X13_wouldBe (k := 24) rfl) rfl rfl rfl
def f_X13_wouldBe (a0 : Nat) (a1 : Int32) (a2 : Int32) (a3 : Int32) (h : jh) : Option (Int32 × jh) :=
  cV h a0 11 (f_X13_many a0 0 h) fun v1 h2 =>
  (if v1 ≤ a1 then
  f_X13_wouldBe_b19 a3 (-1) h2
  else
  cV h2 a0 11 (f_X13_whose a0 a1 a2 h2) fun v6 h7 =>
  f_X13_wouldBe_b19 a3 v6 h7)
theorem P_X13_wouldBe (X : jx) (a0 : Nat) (a1 : Int32) (a2 : Int32) (a3 : Int32) (h : jh) : jv_P X M_X13_wouldBe jeI [.ref (a0), .int (a1), .int (a2), .int (a3)] h (f_X13_wouldBe a0 a1 a2 a3 h) := by
  refine jv_P.of (by decide) rfl (by simp [Value.category]) (Nat.le_of_ble_eq_true rfl) ?_
  show jv_O X M_X13_wouldBe (h.1, h.2.1) jeI 0 [some (.ref (a0)), some (.int (a1)), some (.int (a2)), some (.int (a3)), none] [] h (f_X13_wouldBe a0 a1 a2 a3 h)
  unfold f_X13_wouldBe
  refine jv_iload_n (jv_dk t_X13_wouldBe (k := 0) rfl) rfl rfl ?_
  refine jv_aload_n (jv_dk t_X13_wouldBe (k := 1) rfl) rfl rfl (Or.inr ⟨_, rfl⟩) ?_
  refine jv_iconst (v := 0) (jv_dk t_X13_wouldBe (k := 2) rfl) (by decide) ?_
  refine jv_callV (en' := jeI) (pv := jpI) (As := [.int (0)]) (S := [.int (a1)]) (jv_dk t_X13_wouldBe (k := 3) rfl) (fun _ => rfl) (Or.inl lk_X13_208) me_X13_many mv_X13_many ⟨by decide, by decide⟩ rfl rfl rfl (Nat.le_of_ble_eq_true rfl) (P_X13_many X a0 0 h) (fun v1 h2 => ?_)
  show jv_O X M_X13_wouldBe _ jeI 6 [some (.ref (a0)), some (.int (a1)), some (.int (a2)), some (.int (a3)), none] [.int (v1), .int (a1)] h2 _
  refine jv_icmp_ge (tgt := 18) (jv_dk t_X13_wouldBe (k := 4) rfl) rfl (fun c3 => ?_) (fun c3 => ?_)
  · refine jv_iconst (v := (-1)) (jv_dk t_X13_wouldBe (k := 10) rfl) (by decide) ?_
    refine jv_le_row (jv_le_n (jv_le_n (jv_le_n (jv_le_s (jv_le_n (jv_le_nil)))))) ?_
    exact o_f_X13_wouldBe_b19 _ _ _ 
  · show jv_O _ _ _ _ 9 _ _ _ _
    refine jv_aload_n (jv_dk t_X13_wouldBe (k := 5) rfl) rfl rfl (Or.inr ⟨_, rfl⟩) ?_
    refine jv_iload_n (jv_dk t_X13_wouldBe (k := 6) rfl) rfl rfl ?_
    refine jv_iload_n (jv_dk t_X13_wouldBe (k := 7) rfl) rfl rfl ?_
    refine jv_callV (en' := jeI) (pv := jpI) (As := [.int (a1), .int (a2)]) (S := []) (jv_dk t_X13_wouldBe (k := 8) rfl) (fun _ => rfl) (Or.inl lk_X13_238) me_X13_whose mv_X13_whose ⟨by decide, by decide⟩ rfl rfl rfl (Nat.le_of_ble_eq_true rfl) (P_X13_whose X a0 a1 a2 h2) (fun v6 h7 => ?_)
    show jv_O X M_X13_wouldBe _ jeI 15 [some (.ref (a0)), some (.int (a1)), some (.int (a2)), some (.int (a3)), none] [.int (v6)] h7 _
    refine jv_goto (tgt := 19) (jv_dk t_X13_wouldBe (k := 9) rfl) rfl ?_
    refine jv_le_row (jv_le_n (jv_le_n (jv_le_n (jv_le_s (jv_le_n (jv_le_nil)))))) ?_
    exact o_f_X13_wouldBe_b19 _ _ _ 
def t0_X13_fitsEnd : List (Nat × Instr × Nat) := [(0, .aload_n 0, 1), (1, .iload_n 1, 1), (2, .invokevirtual 292, 3), (5, .istore_n 2, 1), (6, .iconst 1, 1), (7, .istore_n 3, 1), (8, .iconst 0, 1), (9, .istore 4, 2), (11, .iload 4, 2), (13, .aload_n 0, 1), (14, .getfield 198, 3), (17, .if_icmp .ge 57, 3), (20, .iload_n 3, 1), (21, .ifCond .eq 45, 3), (24, .aload_n 0, 1), (25, .aload_n 0, 1), (26, .getfield 66, 3), (29, .iload 4, 2), (31, .iaload, 1), (32, .aload_n 0, 1), (33, .getfield 69, 3), (36, .iload 4, 2), (38, .iaload, 1), (39, .iload_n 2, 1), (40, .invokevirtual 374, 3), (43, .aload_n 0, 1), (44, .getfield 72, 3), (47, .iload 4, 2), (49, .iaload, 1), (50, .iconst 1, 1), (51, .if_icmp .ne 7, 3), (54, .iconst 1, 1), (55, .goto 4, 3), (58, .iconst 0, 1), (59, .if_icmp .ne 7, 3), (62, .iconst 1, 1), (63, .goto 4, 3), (66, .iconst 0, 1), (67, .istore_n 3, 1), (68, .iinc 4 1, 3), (71, .goto (-60), 3), (74, .iload_n 3, 1), (75, .ireturn, 1)]
theorem t_X13_fitsEnd : jv_dec cX13_fitsEnd t0_X13_fitsEnd = true := by decide +kernel
def M_X13_fitsEnd : jm := (yX13_fitsEnd, cX13_fitsEnd, 5, (some .boolean), 5, 109, [])
theorem lk_X13_374 : Cond.methodLink RX13 374 M_X13_wouldBe.1 ∈ lw_tbl := (jv_at 1874 (by decide +kernel))
set_option maxRecDepth 20000 in
theorem me_X13_wouldBe : jv_me M_X13_wouldBe 3 := ⟨(jv_in8 (List.mem_of_getElem? (i := 37) rfl)), (jv_at 172 (by decide +kernel)), ⟨by decide, by decide⟩, by decide +kernel⟩
theorem mv_X13_wouldBe : jv_mv M_X13_wouldBe := ⟨(jv_at 1876 (by decide +kernel)), (jv_at 155 (by decide +kernel))⟩
def f_X13_fitsEnd_b59 (R11 : Nat → Int32 → Int32 → Int32 → jh → Option (Int32 × jh)) (K11 : Int32 → jh → Option (Int32 × jh)) (x0 : Nat) (x2 : Int32) (x4 : Int32) (s0 : Int32) (s1 : Int32) (h : jh) : Option (Int32 × jh) :=
  (if ¬ s1 = s0 then
  R11 x0 x2 0 (x4 + 1) h
  else
  R11 x0 x2 1 (x4 + 1) h)
theorem o_f_X13_fitsEnd_b59 {X : jx} {b0 : Nat × Nat} {R11 : Nat → Int32 → Int32 → Int32 → jh → Option (Int32 × jh)} {K11 : Int32 → jh → Option (Int32 × jh)} (hR11 : ∀ (x0 : Nat) (x2 : Int32) (x3 : Int32) (x4 : Int32) (h : jh), jv_O X M_X13_fitsEnd b0 jeI 11 [some (.ref (x0)), none, some (.int (x2)), some (.int (x3)), some (.int (x4))] [] h (R11 x0 x2 x3 x4 h)) (hK11 : ∀ (x3 : Int32) (h : jh), jv_O X M_X13_fitsEnd b0 jeI 74 [none, none, none, some (.int (x3)), none] [] h (K11 x3 h)) (x0 : Nat) (x2 : Int32) (x4 : Int32) (s0 : Int32) (s1 : Int32) (h : jh) : jv_O X M_X13_fitsEnd b0 jeI 59 [some (.ref (x0)), none, some (.int (x2)), none, some (.int (x4))] [.int (s0), .int (s1)] h (f_X13_fitsEnd_b59 R11 K11 x0 x2 x4 s0 s1 h) := by
  unfold f_X13_fitsEnd_b59
  refine jv_icmp_ne (tgt := 66) (jv_dk t_X13_fitsEnd (k := 34) rfl) rfl (fun c15 => ?_) (fun c15 => ?_)
  · refine jv_iconst (v := 0) (jv_dk t_X13_fitsEnd (k := 37) rfl) (by decide) ?_
    refine jv_istore_n (L' := [some (.ref (x0)), none, some (.int (x2)), some (.int (0)), some (.int (x4))]) (jv_dk t_X13_fitsEnd (k := 38) rfl) rfl (Nat.le_of_ble_eq_true rfl) rfl ?_
    refine jv_iinc (v := 1) (L' := [some (.ref (x0)), none, some (.int (x2)), some (.int (0)), some (.int (x4 + 1))]) (jv_dk t_X13_fitsEnd (k := 39) rfl) rfl (by decide) rfl ?_
    refine jv_goto (tgt := 11) (jv_dk t_X13_fitsEnd (k := 40) rfl) rfl ?_
    exact hR11 _ _ _ _ _ 
  · show jv_O _ _ _ _ 62 _ _ _ _
    refine jv_iconst (v := 1) (jv_dk t_X13_fitsEnd (k := 35) rfl) (by decide) ?_
    refine jv_goto (tgt := 67) (jv_dk t_X13_fitsEnd (k := 36) rfl) rfl ?_
    refine jv_istore_n (L' := [some (.ref (x0)), none, some (.int (x2)), some (.int (1)), some (.int (x4))]) (jv_dk t_X13_fitsEnd (k := 38) rfl) rfl (Nat.le_of_ble_eq_true rfl) rfl ?_
    refine jv_iinc (v := 1) (L' := [some (.ref (x0)), none, some (.int (x2)), some (.int (1)), some (.int (x4 + 1))]) (jv_dk t_X13_fitsEnd (k := 39) rfl) rfl (by decide) rfl ?_
    refine jv_goto (tgt := 11) (jv_dk t_X13_fitsEnd (k := 40) rfl) rfl ?_
    exact hR11 _ _ _ _ _ 
def f_X13_fitsEnd_h11 (K11 : Int32 → jh → Option (Int32 × jh)) (R11 : Nat → Int32 → Int32 → Int32 → jh → Option (Int32 × jh)) (x0 : Nat) (x2 : Int32) (x3 : Int32) (x4 : Int32) (h : jh) : Option (Int32 × jh) :=
  gI h x0 11 22 fun v3 =>
  (if v3 ≤ x4 then
  K11 x3 h
  else
  (if x3 = 0 then
  R11 x0 x2 0 (x4 + 1) h
  else
  gR h x0 11 23 fun v6 =>
  aI h v6 x4 fun v7 =>
  gR h x0 11 24 fun v8 =>
  aI h v8 x4 fun v9 =>
  cV h x0 11 (f_X13_wouldBe x0 v7 v9 x2 h) fun v10 h11 =>
  gR h11 x0 11 25 fun v12 =>
  aI h11 v12 x4 fun v13 =>
  (if ¬ v13 = 1 then
  f_X13_fitsEnd_b59 R11 K11 x0 x2 x4 0 v10 h11
  else
  f_X13_fitsEnd_b59 R11 K11 x0 x2 x4 1 v10 h11)))
theorem o_f_X13_fitsEnd_h11 {X : jx} {b0 : Nat × Nat} {K11 : Int32 → jh → Option (Int32 × jh)} (hK11 : ∀ (x3 : Int32) (h : jh), jv_O X M_X13_fitsEnd b0 jeI 74 [none, none, none, some (.int (x3)), none] [] h (K11 x3 h)) : ∀ (x0 : Nat) (x2 : Int32) (x3 : Int32) (x4 : Int32) (h : jh), jv_O X M_X13_fitsEnd b0 jeI 11 [some (.ref (x0)), none, some (.int (x2)), some (.int (x3)), some (.int (x4))] [] h (jlp4 (f_X13_fitsEnd_h11 K11) jfu x0 x2 x3 x4 h) := by
  refine jlp4_ok (P := fun x0 x2 x3 x4 h o => jv_O X M_X13_fitsEnd b0 jeI 11 [some (.ref (x0)), none, some (.int (x2)), some (.int (x3)), some (.int (x4))] [] h o) (fun R11 hR11 => ?_) (fun _ _ _ _ _  => jv_none rfl) jfu
  intro x0 x2 x3 x4 h
  unfold f_X13_fitsEnd_h11
  refine jv_iload (jv_dk t_X13_fitsEnd (k := 8) rfl) rfl ?_
  refine jv_aload_n (jv_dk t_X13_fitsEnd (k := 9) rfl) rfl rfl (Or.inr ⟨_, rfl⟩) ?_
  refine jv_gI (jv_dk t_X13_fitsEnd (k := 10) rfl) fl_X13_198 (fun v3 => ?_)
  refine jv_icmp_ge (tgt := 74) (jv_dk t_X13_fitsEnd (k := 11) rfl) rfl (fun c4 => ?_) (fun c4 => ?_)
  · refine jv_le_row (jv_le_n (jv_le_n (jv_le_n (jv_le_s (jv_le_n (jv_le_nil)))))) ?_
    exact hK11 _ _ 
  · show jv_O _ _ _ _ 20 _ _ _ _
    refine jv_iload_n (jv_dk t_X13_fitsEnd (k := 12) rfl) rfl rfl ?_
    refine jv_if_eq (tgt := 66) (jv_dk t_X13_fitsEnd (k := 13) rfl) rfl (fun c5 => ?_) (fun c5 => ?_)
    · refine jv_iconst (v := 0) (jv_dk t_X13_fitsEnd (k := 37) rfl) (by decide) ?_
      refine jv_istore_n (L' := [some (.ref (x0)), none, some (.int (x2)), some (.int (0)), some (.int (x4))]) (jv_dk t_X13_fitsEnd (k := 38) rfl) rfl (Nat.le_of_ble_eq_true rfl) rfl ?_
      refine jv_iinc (v := 1) (L' := [some (.ref (x0)), none, some (.int (x2)), some (.int (0)), some (.int (x4 + 1))]) (jv_dk t_X13_fitsEnd (k := 39) rfl) rfl (by decide) rfl ?_
      refine jv_goto (tgt := 11) (jv_dk t_X13_fitsEnd (k := 40) rfl) rfl ?_
      exact hR11 _ _ _ _ _ 
    · show jv_O _ _ _ _ 24 _ _ _ _
      refine jv_aload_n (jv_dk t_X13_fitsEnd (k := 14) rfl) rfl rfl (Or.inr ⟨_, rfl⟩) ?_
      refine jv_aload_n (jv_dk t_X13_fitsEnd (k := 15) rfl) rfl rfl (Or.inr ⟨_, rfl⟩) ?_
      refine jv_gR (jv_dk t_X13_fitsEnd (k := 16) rfl) fl_X13_66 (fun v6 => ?_)
      refine jv_iload (jv_dk t_X13_fitsEnd (k := 17) rfl) rfl ?_
      refine jv_iaload (jv_dk t_X13_fitsEnd (k := 18) rfl) (fun v7 => ?_)
      refine jv_aload_n (jv_dk t_X13_fitsEnd (k := 19) rfl) rfl rfl (Or.inr ⟨_, rfl⟩) ?_
      refine jv_gR (jv_dk t_X13_fitsEnd (k := 20) rfl) fl_X13_69 (fun v8 => ?_)
      refine jv_iload (jv_dk t_X13_fitsEnd (k := 21) rfl) rfl ?_
      refine jv_iaload (jv_dk t_X13_fitsEnd (k := 22) rfl) (fun v9 => ?_)
      refine jv_iload_n (jv_dk t_X13_fitsEnd (k := 23) rfl) rfl rfl ?_
      refine jv_callV (en' := jeI) (pv := jpI) (As := [.int (v7), .int (v9), .int (x2)]) (S := []) (jv_dk t_X13_fitsEnd (k := 24) rfl) (fun _ => rfl) (Or.inl lk_X13_374) me_X13_wouldBe mv_X13_wouldBe ⟨by decide, by decide⟩ rfl rfl rfl (Nat.le_of_ble_eq_true rfl) (P_X13_wouldBe X x0 v7 v9 x2 h) (fun v10 h11 => ?_)
      show jv_O X M_X13_fitsEnd _ jeI 43 [some (.ref (x0)), none, some (.int (x2)), some (.int (x3)), some (.int (x4))] [.int (v10)] h11 _
      refine jv_aload_n (jv_dk t_X13_fitsEnd (k := 25) rfl) rfl rfl (Or.inr ⟨_, rfl⟩) ?_
      refine jv_gR (jv_dk t_X13_fitsEnd (k := 26) rfl) fl_X13_72 (fun v12 => ?_)
      refine jv_iload (jv_dk t_X13_fitsEnd (k := 27) rfl) rfl ?_
      refine jv_iaload (jv_dk t_X13_fitsEnd (k := 28) rfl) (fun v13 => ?_)
      refine jv_iconst (v := 1) (jv_dk t_X13_fitsEnd (k := 29) rfl) (by decide) ?_
      refine jv_icmp_ne (tgt := 58) (jv_dk t_X13_fitsEnd (k := 30) rfl) rfl (fun c14 => ?_) (fun c14 => ?_)
      · refine jv_iconst (v := 0) (jv_dk t_X13_fitsEnd (k := 33) rfl) (by decide) ?_
        refine jv_le_row (jv_le_s (jv_le_n (jv_le_s (jv_le_n (jv_le_s (jv_le_nil)))))) ?_
        exact o_f_X13_fitsEnd_b59 hR11 hK11 _ _ _ _ _ _ 
      · show jv_O _ _ _ _ 54 _ _ _ _
        refine jv_iconst (v := 1) (jv_dk t_X13_fitsEnd (k := 31) rfl) (by decide) ?_
        refine jv_goto (tgt := 59) (jv_dk t_X13_fitsEnd (k := 32) rfl) rfl ?_
        refine jv_le_row (jv_le_s (jv_le_n (jv_le_s (jv_le_n (jv_le_s (jv_le_nil)))))) ?_
        exact o_f_X13_fitsEnd_b59 hR11 hK11 _ _ _ _ _ _ 
def f_X13_fitsEnd (a0 : Nat) (a1 : Int32) (h : jh) : Option (Int32 × jh) :=
  cV h a0 11 (f_X13_fall a0 a1 h) fun v1 h2 =>
  jlp4 (f_X13_fitsEnd_h11 (fun y17 h16 =>
  jz y17 h16)) jfu a0 v1 1 0 h2
theorem P_X13_fitsEnd (X : jx) (a0 : Nat) (a1 : Int32) (h : jh) : jv_P X M_X13_fitsEnd jeI [.ref (a0), .int (a1)] h (f_X13_fitsEnd a0 a1 h) := by
  refine jv_P.of (by decide) rfl (by simp [Value.category]) (Nat.le_of_ble_eq_true rfl) ?_
  show jv_O X M_X13_fitsEnd (h.1, h.2.1) jeI 0 [some (.ref (a0)), some (.int (a1)), none, none, none] [] h (f_X13_fitsEnd a0 a1 h)
  unfold f_X13_fitsEnd
  refine jv_aload_n (jv_dk t_X13_fitsEnd (k := 0) rfl) rfl rfl (Or.inr ⟨_, rfl⟩) ?_
  refine jv_iload_n (jv_dk t_X13_fitsEnd (k := 1) rfl) rfl rfl ?_
  refine jv_callV (en' := jeI) (pv := jpI) (As := [.int (a1)]) (S := []) (jv_dk t_X13_fitsEnd (k := 2) rfl) (fun _ => rfl) (Or.inl lk_X13_292) me_X13_fall mv_X13_fall ⟨by decide, by decide⟩ rfl rfl rfl (Nat.le_of_ble_eq_true rfl) (P_X13_fall X a0 a1 h) (fun v1 h2 => ?_)
  show jv_O X M_X13_fitsEnd _ jeI 5 [some (.ref (a0)), some (.int (a1)), none, none, none] [.int (v1)] h2 _
  refine jv_istore_n (L' := [some (.ref (a0)), some (.int (a1)), some (.int (v1)), none, none]) (jv_dk t_X13_fitsEnd (k := 3) rfl) rfl (Nat.le_of_ble_eq_true rfl) rfl ?_
  refine jv_iconst (v := 1) (jv_dk t_X13_fitsEnd (k := 4) rfl) (by decide) ?_
  refine jv_istore_n (L' := [some (.ref (a0)), some (.int (a1)), some (.int (v1)), some (.int (1)), none]) (jv_dk t_X13_fitsEnd (k := 5) rfl) rfl (Nat.le_of_ble_eq_true rfl) rfl ?_
  refine jv_iconst (v := 0) (jv_dk t_X13_fitsEnd (k := 6) rfl) (by decide) ?_
  refine jv_istore (L' := [some (.ref (a0)), some (.int (a1)), some (.int (v1)), some (.int (1)), some (.int (0))]) (jv_dk t_X13_fitsEnd (k := 7) rfl) (Nat.le_of_ble_eq_true rfl) rfl ?_
  refine jv_le_row (jv_le_s (jv_le_n (jv_le_s (jv_le_s (jv_le_s (jv_le_nil)))))) ?_
  refine o_f_X13_fitsEnd_h11 (fun y17 h16 => ?_) _ _ _ _ _ 
  show jv_O X M_X13_fitsEnd _ jeI 74 [none, none, none, some (.int (y17)), none] [] h16 _
  refine jv_iload_n (jv_dk t_X13_fitsEnd (k := 41) rfl) rfl rfl ?_
  unfold jz
  by_cases c18 : y17 &&& 1 = y17
  · rw [if_pos c18]; exact jv_iret (ty := .boolean) (jv_dk t_X13_fitsEnd (k := 42) rfl) rfl (jv_nb c18) rfl
  · rw [if_neg c18]; exact jv_none rfl
def t0_X13_fitting : List (Nat × Instr × Nat) := [(0, .iconst 0, 1), (1, .istore_n 1, 1), (2, .iconst 1, 1), (3, .istore_n 2, 1), (4, .iload_n 2, 1), (5, .bipush 16, 2), (7, .if_icmp .ge 35, 3), (10, .iload_n 1, 1), (11, .aload_n 0, 1), (12, .iload_n 2, 1), (13, .invokevirtual 289, 3), (16, .ifCond .eq 17, 3), (19, .aload_n 0, 1), (20, .iload_n 2, 1), (21, .invokevirtual 377, 3), (24, .ifCond .eq 9, 3), (27, .iconst 1, 1), (28, .iload_n 2, 1), (29, .ishl, 1), (30, .goto 4, 3), (33, .iconst 0, 1), (34, .ior, 1), (35, .istore_n 1, 1), (36, .iinc 2 1, 3), (39, .goto (-35), 3), (42, .iload_n 1, 1), (43, .ireturn, 1)]
theorem t_X13_fitting : jv_dec cX13_fitting t0_X13_fitting = true := by decide +kernel
def M_X13_fitting : jm := (yX13_fitting, cX13_fitting, 3, (some .int), 6, 133, [])
theorem lk_X13_377 : Cond.methodLink RX13 377 M_X13_fitsEnd.1 ∈ lw_tbl := (jv_at 1870 (by decide +kernel))
set_option maxRecDepth 20000 in
theorem me_X13_fitsEnd : jv_me M_X13_fitsEnd 1 := ⟨(jv_in8 (List.mem_of_getElem? (i := 33) rfl)), (jv_at 172 (by decide +kernel)), ⟨by decide, by decide⟩, by decide +kernel⟩
theorem mv_X13_fitsEnd : jv_mv M_X13_fitsEnd := ⟨(jv_at 1872 (by decide +kernel)), (jv_at 154 (by decide +kernel))⟩
def f_X13_fitting_h4 (K4 : Int32 → jh → Option (Int32 × jh)) (R4 : Nat → Int32 → Int32 → jh → Option (Int32 × jh)) (x0 : Nat) (x1 : Int32) (x2 : Int32) (h : jh) : Option (Int32 × jh) :=
  (if 16 ≤ x2 then
  K4 x1 h
  else
  cV h x0 11 (f_X13_isThere x0 x2 h) fun v2 h3 =>
  (if v2 = 0 then
  R4 x0 (x1 ||| 0) (x2 + 1) h3
  else
  cV h3 x0 11 (f_X13_fitsEnd x0 x2 h3) fun v5 h6 =>
  (if v5 = 0 then
  R4 x0 (x1 ||| 0) (x2 + 1) h6
  else
  R4 x0 (x1 ||| (1 <<< (x2 &&& 31))) (x2 + 1) h6)))
theorem o_f_X13_fitting_h4 {X : jx} {b0 : Nat × Nat} {K4 : Int32 → jh → Option (Int32 × jh)} (hK4 : ∀ (x1 : Int32) (h : jh), jv_O X M_X13_fitting b0 jeI 42 [none, some (.int (x1)), none] [] h (K4 x1 h)) : ∀ (x0 : Nat) (x1 : Int32) (x2 : Int32) (h : jh), jv_O X M_X13_fitting b0 jeI 4 [some (.ref (x0)), some (.int (x1)), some (.int (x2))] [] h (jlp3 (f_X13_fitting_h4 K4) jfu x0 x1 x2 h) := by
  refine jlp3_ok (P := fun x0 x1 x2 h o => jv_O X M_X13_fitting b0 jeI 4 [some (.ref (x0)), some (.int (x1)), some (.int (x2))] [] h o) (fun R4 hR4 => ?_) (fun _ _ _ _  => jv_none rfl) jfu
  intro x0 x1 x2 h
  unfold f_X13_fitting_h4
  refine jv_iload_n (jv_dk t_X13_fitting (k := 4) rfl) rfl rfl ?_
  refine jv_bipush (v := 16) (jv_dk t_X13_fitting (k := 5) rfl) (by decide) ?_
  refine jv_icmp_ge (tgt := 42) (jv_dk t_X13_fitting (k := 6) rfl) rfl (fun c1 => ?_) (fun c1 => ?_)
  · refine jv_le_row (jv_le_n (jv_le_s (jv_le_n (jv_le_nil)))) ?_
    exact hK4 _ _ 
  · show jv_O _ _ _ _ 10 _ _ _ _
    refine jv_iload_n (jv_dk t_X13_fitting (k := 7) rfl) rfl rfl ?_
    refine jv_aload_n (jv_dk t_X13_fitting (k := 8) rfl) rfl rfl (Or.inr ⟨_, rfl⟩) ?_
    refine jv_iload_n (jv_dk t_X13_fitting (k := 9) rfl) rfl rfl ?_
    refine jv_callV (en' := jeI) (pv := jpI) (As := [.int (x2)]) (S := [.int (x1)]) (jv_dk t_X13_fitting (k := 10) rfl) (fun _ => rfl) (Or.inl lk_X13_289) me_X13_isThere mv_X13_isThere ⟨by decide, by decide⟩ rfl rfl rfl (Nat.le_of_ble_eq_true rfl) (P_X13_isThere X x0 x2 h) (fun v2 h3 => ?_)
    show jv_O X M_X13_fitting _ jeI 16 [some (.ref (x0)), some (.int (x1)), some (.int (x2))] [.int (v2), .int (x1)] h3 _
    refine jv_if_eq (tgt := 33) (jv_dk t_X13_fitting (k := 11) rfl) rfl (fun c4 => ?_) (fun c4 => ?_)
    · refine jv_iconst (v := 0) (jv_dk t_X13_fitting (k := 20) rfl) (by decide) ?_
      refine jv_ior (jv_dk t_X13_fitting (k := 21) rfl) ?_
      refine jv_istore_n (L' := [some (.ref (x0)), some (.int (x1 ||| 0)), some (.int (x2))]) (jv_dk t_X13_fitting (k := 22) rfl) rfl (Nat.le_of_ble_eq_true rfl) rfl ?_
      refine jv_iinc (v := 1) (L' := [some (.ref (x0)), some (.int (x1 ||| 0)), some (.int (x2 + 1))]) (jv_dk t_X13_fitting (k := 23) rfl) rfl (by decide) rfl ?_
      refine jv_goto (tgt := 4) (jv_dk t_X13_fitting (k := 24) rfl) rfl ?_
      exact hR4 _ _ _ _ 
    · show jv_O _ _ _ _ 19 _ _ _ _
      refine jv_aload_n (jv_dk t_X13_fitting (k := 12) rfl) rfl rfl (Or.inr ⟨_, rfl⟩) ?_
      refine jv_iload_n (jv_dk t_X13_fitting (k := 13) rfl) rfl rfl ?_
      refine jv_callV (en' := jeI) (pv := jpI) (As := [.int (x2)]) (S := [.int (x1)]) (jv_dk t_X13_fitting (k := 14) rfl) (fun _ => rfl) (Or.inl lk_X13_377) me_X13_fitsEnd mv_X13_fitsEnd ⟨by decide, by decide⟩ rfl rfl rfl (Nat.le_of_ble_eq_true rfl) (P_X13_fitsEnd X x0 x2 h3) (fun v5 h6 => ?_)
      show jv_O X M_X13_fitting _ jeI 24 [some (.ref (x0)), some (.int (x1)), some (.int (x2))] [.int (v5), .int (x1)] h6 _
      refine jv_if_eq (tgt := 33) (jv_dk t_X13_fitting (k := 15) rfl) rfl (fun c7 => ?_) (fun c7 => ?_)
      · refine jv_iconst (v := 0) (jv_dk t_X13_fitting (k := 20) rfl) (by decide) ?_
        refine jv_ior (jv_dk t_X13_fitting (k := 21) rfl) ?_
        refine jv_istore_n (L' := [some (.ref (x0)), some (.int (x1 ||| 0)), some (.int (x2))]) (jv_dk t_X13_fitting (k := 22) rfl) rfl (Nat.le_of_ble_eq_true rfl) rfl ?_
        refine jv_iinc (v := 1) (L' := [some (.ref (x0)), some (.int (x1 ||| 0)), some (.int (x2 + 1))]) (jv_dk t_X13_fitting (k := 23) rfl) rfl (by decide) rfl ?_
        refine jv_goto (tgt := 4) (jv_dk t_X13_fitting (k := 24) rfl) rfl ?_
        exact hR4 _ _ _ _ 
      · show jv_O _ _ _ _ 27 _ _ _ _
        refine jv_iconst (v := 1) (jv_dk t_X13_fitting (k := 16) rfl) (by decide) ?_
        refine jv_iload_n (jv_dk t_X13_fitting (k := 17) rfl) rfl rfl ?_
        refine jv_ishl (jv_dk t_X13_fitting (k := 18) rfl) ?_
        refine jv_goto (tgt := 34) (jv_dk t_X13_fitting (k := 19) rfl) rfl ?_
        refine jv_ior (jv_dk t_X13_fitting (k := 21) rfl) ?_
        refine jv_istore_n (L' := [some (.ref (x0)), some (.int (x1 ||| (1 <<< (x2 &&& 31)))), some (.int (x2))]) (jv_dk t_X13_fitting (k := 22) rfl) rfl (Nat.le_of_ble_eq_true rfl) rfl ?_
        refine jv_iinc (v := 1) (L' := [some (.ref (x0)), some (.int (x1 ||| (1 <<< (x2 &&& 31)))), some (.int (x2 + 1))]) (jv_dk t_X13_fitting (k := 23) rfl) rfl (by decide) rfl ?_
        refine jv_goto (tgt := 4) (jv_dk t_X13_fitting (k := 24) rfl) rfl ?_
        exact hR4 _ _ _ _ 
def f_X13_fitting (a0 : Nat) (h : jh) : Option (Int32 × jh) :=
  jlp3 (f_X13_fitting_h4 (fun y9 h8 =>
  some (y9, h8))) jfu a0 0 1 h
theorem P_X13_fitting (X : jx) (a0 : Nat) (h : jh) : jv_P X M_X13_fitting jeI [.ref (a0)] h (f_X13_fitting a0 h) := by
  refine jv_P.of (by decide) rfl (by simp [Value.category]) (Nat.le_of_ble_eq_true rfl) ?_
  show jv_O X M_X13_fitting (h.1, h.2.1) jeI 0 [some (.ref (a0)), none, none] [] h (f_X13_fitting a0 h)
  unfold f_X13_fitting
  refine jv_iconst (v := 0) (jv_dk t_X13_fitting (k := 0) rfl) (by decide) ?_
  refine jv_istore_n (L' := [some (.ref (a0)), some (.int (0)), none]) (jv_dk t_X13_fitting (k := 1) rfl) rfl (Nat.le_of_ble_eq_true rfl) rfl ?_
  refine jv_iconst (v := 1) (jv_dk t_X13_fitting (k := 2) rfl) (by decide) ?_
  refine jv_istore_n (L' := [some (.ref (a0)), some (.int (0)), some (.int (1))]) (jv_dk t_X13_fitting (k := 3) rfl) rfl (Nat.le_of_ble_eq_true rfl) rfl ?_
  refine o_f_X13_fitting_h4 (fun y9 h8 => ?_) _ _ _ _ 
  show jv_O X M_X13_fitting _ jeI 42 [none, some (.int (y9)), none] [] h8 _
  refine jv_iload_n (jv_dk t_X13_fitting (k := 25) rfl) rfl rfl ?_
  exact jv_iret (ty := .int) (jv_dk t_X13_fitting (k := 26) rfl) rfl rfl rfl
def t0_X13_fits : List (Nat × Instr × Nat) := [(0, .aload_n 0, 1), (1, .iconst 0, 1), (2, .putfield 96, 3), (5, .aload_n 0, 1), (6, .invokevirtual 380, 3), (9, .ireturn, 1)]
theorem t_X13_fits : jv_dec cX13_fits t0_X13_fits = true := by decide +kernel
def M_X13_fits : jm := (yX13_fits, cX13_fits, 1, (some .int), 7, 155, [])
theorem lk_X13_380 : Cond.methodLink RX13 380 M_X13_fitting.1 ∈ lw_tbl := (jv_at 1866 (by decide +kernel))
set_option maxRecDepth 20000 in
theorem me_X13_fitting : jv_me M_X13_fitting 0 := ⟨(jv_in8 (List.mem_of_getElem? (i := 29) rfl)), (jv_at 172 (by decide +kernel)), ⟨by decide, by decide⟩, by decide +kernel⟩
theorem mv_X13_fitting : jv_mv M_X13_fitting := ⟨(jv_at 1868 (by decide +kernel)), (jv_at 153 (by decide +kernel))⟩
def f_X13_fits (a0 : Nat) (h : jh) : Option (Int32 × jh) :=
  pV h a0 11 1 (.int (0)) fun h1 =>
  cV h1 a0 11 (f_X13_fitting a0 h1) fun v2 h3 =>
  some (v2, h3)
theorem P_X13_fits (X : jx) (a0 : Nat) (h : jh) : jv_P X M_X13_fits jeI [.ref (a0)] h (f_X13_fits a0 h) := by
  refine jv_P.of (by decide) rfl (by simp [Value.category]) (Nat.le_of_ble_eq_true rfl) ?_
  show jv_O X M_X13_fits (h.1, h.2.1) jeI 0 [some (.ref (a0))] [] h (f_X13_fits a0 h)
  unfold f_X13_fits
  refine jv_aload_n (jv_dk t_X13_fits (k := 0) rfl) rfl rfl (Or.inr ⟨_, rfl⟩) ?_
  refine jv_iconst (v := 0) (jv_dk t_X13_fits (k := 1) rfl) (by decide) ?_
  refine jv_pV (jv_dk t_X13_fits (k := 2) rfl) fl_X13_96 kX13 (Or.inl rfl) rfl rfl rfl (fun h1 => ?_)
  refine jv_aload_n (jv_dk t_X13_fits (k := 3) rfl) rfl rfl (Or.inr ⟨_, rfl⟩) ?_
  refine jv_callV (en' := jeI) (pv := jpI) (As := []) (S := []) (jv_dk t_X13_fits (k := 4) rfl) (fun _ => rfl) (Or.inl lk_X13_380) me_X13_fitting mv_X13_fitting ⟨by decide, by decide⟩ rfl rfl rfl (Nat.le_of_ble_eq_true rfl) (P_X13_fitting X a0 h1) (fun v2 h3 => ?_)
  show jv_O X M_X13_fits _ jeI 9 [some (.ref (a0))] [.int (v2)] h3 _
  exact jv_iret (ty := .int) (jv_dk t_X13_fits (k := 5) rfl) rfl rfl rfl
def t0_X13_lesser : List (Nat × Instr × Nat) := [(0, .iconst 0, 1), (1, .istore 4, 2), (3, .iconst 1, 1), (4, .istore 5, 2), (6, .iload 5, 2), (8, .bipush 16, 2), (10, .if_icmp .ge 44, 3), (13, .iload 4, 2), (15, .iload_n 3, 1), (16, .iload 5, 2), (18, .ishr, 1), (19, .iconst 1, 1), (20, .iand, 1), (21, .iconst 1, 1), (22, .if_icmp .ne 22, 3), (25, .aload_n 0, 1), (26, .iload_n 1, 1), (27, .iload_n 2, 1), (28, .aload_n 0, 1), (29, .iload 5, 2), (31, .invokevirtual 292, 3), (34, .invokevirtual 374, 3), (37, .ifCond .eq 7, 3), (40, .iconst 1, 1), (41, .goto 4, 3), (44, .iconst 0, 1), (45, .iadd, 1), (46, .istore 4, 2), (48, .iinc 5 1, 3), (51, .goto (-45), 3), (54, .iload 4, 2), (56, .iload_n 3, 1), (57, .invokestatic 339, 3), (60, .iload 4, 2), (62, .isub, 1), (63, .invokestatic 133, 3), (66, .ireturn, 1)]
theorem t_X13_lesser : jv_dec cX13_lesser t0_X13_lesser = true := by decide +kernel
def M_X13_lesser : jm := (yX13_lesser, cX13_lesser, 6, (some .int), 5, 109, [])
def f_X13_lesser_h6 (K6 : Int32 → Int32 → jh → Option (Int32 × jh)) (R6 : Nat → Int32 → Int32 → Int32 → Int32 → Int32 → jh → Option (Int32 × jh)) (x0 : Nat) (x1 : Int32) (x2 : Int32) (x3 : Int32) (x4 : Int32) (x5 : Int32) (h : jh) : Option (Int32 × jh) :=
  (if 16 ≤ x5 then
  K6 x3 x4 h
  else
  (if ¬ ((x3 >>> (x5 &&& 31)) &&& 1) = 1 then
  R6 x0 x1 x2 x3 (x4 + 0) (x5 + 1) h
  else
  cV h x0 11 (f_X13_fall x0 x5 h) fun v3 h4 =>
  cV h4 x0 11 (f_X13_wouldBe x0 x1 x2 v3 h4) fun v5 h6 =>
  (if v5 = 0 then
  R6 x0 x1 x2 x3 (x4 + 0) (x5 + 1) h6
  else
  R6 x0 x1 x2 x3 (x4 + 1) (x5 + 1) h6)))
theorem o_f_X13_lesser_h6 {X : jx} {b0 : Nat × Nat} {K6 : Int32 → Int32 → jh → Option (Int32 × jh)} (hK6 : ∀ (x3 : Int32) (x4 : Int32) (h : jh), jv_O X M_X13_lesser b0 jeI 54 [none, none, none, some (.int (x3)), some (.int (x4)), none] [] h (K6 x3 x4 h)) : ∀ (x0 : Nat) (x1 : Int32) (x2 : Int32) (x3 : Int32) (x4 : Int32) (x5 : Int32) (h : jh), jv_O X M_X13_lesser b0 jeI 6 [some (.ref (x0)), some (.int (x1)), some (.int (x2)), some (.int (x3)), some (.int (x4)), some (.int (x5))] [] h (jlp6 (f_X13_lesser_h6 K6) jfu x0 x1 x2 x3 x4 x5 h) := by
  refine jlp6_ok (P := fun x0 x1 x2 x3 x4 x5 h o => jv_O X M_X13_lesser b0 jeI 6 [some (.ref (x0)), some (.int (x1)), some (.int (x2)), some (.int (x3)), some (.int (x4)), some (.int (x5))] [] h o) (fun R6 hR6 => ?_) (fun _ _ _ _ _ _ _  => jv_none rfl) jfu
  intro x0 x1 x2 x3 x4 x5 h
  unfold f_X13_lesser_h6
  refine jv_iload (jv_dk t_X13_lesser (k := 4) rfl) rfl ?_
  refine jv_bipush (v := 16) (jv_dk t_X13_lesser (k := 5) rfl) (by decide) ?_
  refine jv_icmp_ge (tgt := 54) (jv_dk t_X13_lesser (k := 6) rfl) rfl (fun c1 => ?_) (fun c1 => ?_)
  · refine jv_le_row (jv_le_n (jv_le_n (jv_le_n (jv_le_s (jv_le_s (jv_le_n (jv_le_nil))))))) ?_
    exact hK6 _ _ _ 
  · show jv_O _ _ _ _ 13 _ _ _ _
    refine jv_iload (jv_dk t_X13_lesser (k := 7) rfl) rfl ?_
    refine jv_iload_n (jv_dk t_X13_lesser (k := 8) rfl) rfl rfl ?_
    refine jv_iload (jv_dk t_X13_lesser (k := 9) rfl) rfl ?_
    refine jv_ishr (jv_dk t_X13_lesser (k := 10) rfl) ?_
    refine jv_iconst (v := 1) (jv_dk t_X13_lesser (k := 11) rfl) (by decide) ?_
    refine jv_iand (jv_dk t_X13_lesser (k := 12) rfl) ?_
    refine jv_iconst (v := 1) (jv_dk t_X13_lesser (k := 13) rfl) (by decide) ?_
    refine jv_icmp_ne (tgt := 44) (jv_dk t_X13_lesser (k := 14) rfl) rfl (fun c2 => ?_) (fun c2 => ?_)
    · refine jv_iconst (v := 0) (jv_dk t_X13_lesser (k := 25) rfl) (by decide) ?_
      refine jv_iadd (jv_dk t_X13_lesser (k := 26) rfl) ?_
      refine jv_istore (L' := [some (.ref (x0)), some (.int (x1)), some (.int (x2)), some (.int (x3)), some (.int (x4 + 0)), some (.int (x5))]) (jv_dk t_X13_lesser (k := 27) rfl) (Nat.le_of_ble_eq_true rfl) rfl ?_
      refine jv_iinc (v := 1) (L' := [some (.ref (x0)), some (.int (x1)), some (.int (x2)), some (.int (x3)), some (.int (x4 + 0)), some (.int (x5 + 1))]) (jv_dk t_X13_lesser (k := 28) rfl) rfl (by decide) rfl ?_
      refine jv_goto (tgt := 6) (jv_dk t_X13_lesser (k := 29) rfl) rfl ?_
      exact hR6 _ _ _ _ _ _ _ 
    · show jv_O _ _ _ _ 25 _ _ _ _
      refine jv_aload_n (jv_dk t_X13_lesser (k := 15) rfl) rfl rfl (Or.inr ⟨_, rfl⟩) ?_
      refine jv_iload_n (jv_dk t_X13_lesser (k := 16) rfl) rfl rfl ?_
      refine jv_iload_n (jv_dk t_X13_lesser (k := 17) rfl) rfl rfl ?_
      refine jv_aload_n (jv_dk t_X13_lesser (k := 18) rfl) rfl rfl (Or.inr ⟨_, rfl⟩) ?_
      refine jv_iload (jv_dk t_X13_lesser (k := 19) rfl) rfl ?_
      refine jv_callV (en' := jeI) (pv := jpI) (As := [.int (x5)]) (S := [.int (x2), .int (x1), .ref (x0), .int (x4)]) (jv_dk t_X13_lesser (k := 20) rfl) (fun _ => rfl) (Or.inl lk_X13_292) me_X13_fall mv_X13_fall ⟨by decide, by decide⟩ rfl rfl rfl (Nat.le_of_ble_eq_true rfl) (P_X13_fall X x0 x5 h) (fun v3 h4 => ?_)
      show jv_O X M_X13_lesser _ jeI 34 [some (.ref (x0)), some (.int (x1)), some (.int (x2)), some (.int (x3)), some (.int (x4)), some (.int (x5))] [.int (v3), .int (x2), .int (x1), .ref (x0), .int (x4)] h4 _
      refine jv_callV (en' := jeI) (pv := jpI) (As := [.int (x1), .int (x2), .int (v3)]) (S := [.int (x4)]) (jv_dk t_X13_lesser (k := 21) rfl) (fun _ => rfl) (Or.inl lk_X13_374) me_X13_wouldBe mv_X13_wouldBe ⟨by decide, by decide⟩ rfl rfl rfl (Nat.le_of_ble_eq_true rfl) (P_X13_wouldBe X x0 x1 x2 v3 h4) (fun v5 h6 => ?_)
      show jv_O X M_X13_lesser _ jeI 37 [some (.ref (x0)), some (.int (x1)), some (.int (x2)), some (.int (x3)), some (.int (x4)), some (.int (x5))] [.int (v5), .int (x4)] h6 _
      refine jv_if_eq (tgt := 44) (jv_dk t_X13_lesser (k := 22) rfl) rfl (fun c7 => ?_) (fun c7 => ?_)
      · refine jv_iconst (v := 0) (jv_dk t_X13_lesser (k := 25) rfl) (by decide) ?_
        refine jv_iadd (jv_dk t_X13_lesser (k := 26) rfl) ?_
        refine jv_istore (L' := [some (.ref (x0)), some (.int (x1)), some (.int (x2)), some (.int (x3)), some (.int (x4 + 0)), some (.int (x5))]) (jv_dk t_X13_lesser (k := 27) rfl) (Nat.le_of_ble_eq_true rfl) rfl ?_
        refine jv_iinc (v := 1) (L' := [some (.ref (x0)), some (.int (x1)), some (.int (x2)), some (.int (x3)), some (.int (x4 + 0)), some (.int (x5 + 1))]) (jv_dk t_X13_lesser (k := 28) rfl) rfl (by decide) rfl ?_
        refine jv_goto (tgt := 6) (jv_dk t_X13_lesser (k := 29) rfl) rfl ?_
        exact hR6 _ _ _ _ _ _ _ 
      · show jv_O _ _ _ _ 40 _ _ _ _
        refine jv_iconst (v := 1) (jv_dk t_X13_lesser (k := 23) rfl) (by decide) ?_
        refine jv_goto (tgt := 45) (jv_dk t_X13_lesser (k := 24) rfl) rfl ?_
        refine jv_iadd (jv_dk t_X13_lesser (k := 26) rfl) ?_
        refine jv_istore (L' := [some (.ref (x0)), some (.int (x1)), some (.int (x2)), some (.int (x3)), some (.int (x4 + 1)), some (.int (x5))]) (jv_dk t_X13_lesser (k := 27) rfl) (Nat.le_of_ble_eq_true rfl) rfl ?_
        refine jv_iinc (v := 1) (L' := [some (.ref (x0)), some (.int (x1)), some (.int (x2)), some (.int (x3)), some (.int (x4 + 1)), some (.int (x5 + 1))]) (jv_dk t_X13_lesser (k := 28) rfl) rfl (by decide) rfl ?_
        refine jv_goto (tgt := 6) (jv_dk t_X13_lesser (k := 29) rfl) rfl ?_
        exact hR6 _ _ _ _ _ _ _ 
def f_X13_lesser (a0 : Nat) (a1 : Int32) (a2 : Int32) (a3 : Int32) (h : jh) : Option (Int32 × jh) :=
  jlp6 (f_X13_lesser_h6 (fun y9 y10 h8 =>
  bd (f_J6_bitCount_0f7a4 y9 h8) fun v11 h12 =>
  lt1 (if (v11 - y10) < y10 then (v11 - y10) else y10) fun v13 =>
  some (v13, h12))) jfu a0 a1 a2 a3 0 1 h
theorem P_X13_lesser (X : jx) (a0 : Nat) (a1 : Int32) (a2 : Int32) (a3 : Int32) (h : jh) : jv_P X M_X13_lesser jeI [.ref (a0), .int (a1), .int (a2), .int (a3)] h (f_X13_lesser a0 a1 a2 a3 h) := by
  refine jv_P.of (by decide) rfl (by simp [Value.category]) (Nat.le_of_ble_eq_true rfl) ?_
  show jv_O X M_X13_lesser (h.1, h.2.1) jeI 0 [some (.ref (a0)), some (.int (a1)), some (.int (a2)), some (.int (a3)), none, none] [] h (f_X13_lesser a0 a1 a2 a3 h)
  unfold f_X13_lesser
  refine jv_iconst (v := 0) (jv_dk t_X13_lesser (k := 0) rfl) (by decide) ?_
  refine jv_istore (L' := [some (.ref (a0)), some (.int (a1)), some (.int (a2)), some (.int (a3)), some (.int (0)), none]) (jv_dk t_X13_lesser (k := 1) rfl) (Nat.le_of_ble_eq_true rfl) rfl ?_
  refine jv_iconst (v := 1) (jv_dk t_X13_lesser (k := 2) rfl) (by decide) ?_
  refine jv_istore (L' := [some (.ref (a0)), some (.int (a1)), some (.int (a2)), some (.int (a3)), some (.int (0)), some (.int (1))]) (jv_dk t_X13_lesser (k := 3) rfl) (Nat.le_of_ble_eq_true rfl) rfl ?_
  refine o_f_X13_lesser_h6 (fun y9 y10 h8 => ?_) _ _ _ _ _ _ _ 
  show jv_O X M_X13_lesser _ jeI 54 [none, none, none, some (.int (y9)), some (.int (y10)), none] [] h8 _
  refine jv_iload (jv_dk t_X13_lesser (k := 30) rfl) rfl ?_
  refine jv_iload_n (jv_dk t_X13_lesser (k := 31) rfl) rfl rfl ?_
  refine jv_callS (en' := jeI) (pv := jpI) (As := [.int (y9)]) (S := [.int (y10)]) (jv_dk t_X13_lesser (k := 32) rfl) (fun _ => rfl) (Or.inl lk_X13_339) me_J6_bitCount_0f7a4 ms_J6_bitCount_0f7a4 ⟨by decide, by decide⟩ rfl rfl (Nat.le_of_ble_eq_true rfl) (P_J6_bitCount_0f7a4 X y9 h8) (fun v11 h12 => ?_)
  show jv_O X M_X13_lesser _ jeI 60 [none, none, none, some (.int (y9)), some (.int (y10)), none] [.int (v11), .int (y10)] h12 _
  refine jv_iload (jv_dk t_X13_lesser (k := 33) rfl) rfl ?_
  refine jv_isub (jv_dk t_X13_lesser (k := 34) rfl) ?_
  refine jv_lt1 (fun v13 e_v13 => ?_)
  refine jv_mmin (jv_dk t_X13_lesser (k := 35) rfl) mt_X13_133 (Nat.le_of_ble_eq_true rfl) ⟨by decide, by decide⟩ ?_
  rw [← e_v13]
  exact jv_iret (ty := .int) (jv_dk t_X13_lesser (k := 36) rfl) rfl rfl rfl
def t0_X13_look : List (Nat × Instr × Nat) := [(0, .aload_n 0, 1), (1, .iconst 0, 1), (2, .putfield 96, 3), (5, .iload_n 1, 1), (6, .iconst 0, 1), (7, .iconst 1, 1), (8, .invokestatic 169, 3), (11, .ifCond .ne 9, 3), (14, .aload_n 0, 1), (15, .iconst 1, 1), (16, .invokevirtual 185, 3), (19, .ireturn, 1), (20, .aload_n 0, 1), (21, .invokevirtual 380, 3), (24, .istore_n 2, 1), (25, .iconst (-1), 1), (26, .istore_n 3, 1), (27, .iconst 0, 1), (28, .istore 4, 2), (30, .iconst 0, 1), (31, .istore 5, 2), (33, .iload 5, 2), (35, .aload_n 0, 1), (36, .iconst 0, 1), (37, .invokevirtual 208, 3), (40, .if_icmp .ge 59, 3), (43, .iconst 1, 1), (44, .istore 6, 2), (46, .iload 6, 2), (48, .bipush 20, 2), (50, .if_icmp .gt 43, 3), (53, .aload_n 0, 1), (54, .iload 5, 2), (56, .iload 6, 2), (58, .iload_n 2, 1), (59, .invokevirtual 383, 3), (62, .istore 7, 2), (64, .iload 7, 2), (66, .iload 4, 2), (68, .if_icmp .gt 6, 3), (71, .goto 16, 3), (74, .bipush 100, 2), (76, .iload 5, 2), (78, .imul, 1), (79, .iload 6, 2), (81, .iadd, 1), (82, .istore_n 3, 1), (83, .iload 7, 2), (85, .istore 4, 2), (87, .iinc 6 1, 3), (90, .goto (-44), 3), (93, .iinc 5 1, 3), (96, .goto (-63), 3), (99, .iload_n 1, 1), (100, .ifCond .ne 7, 3), (103, .iload_n 3, 1), (104, .goto 5, 3), (107, .iload 4, 2), (109, .ireturn, 1)]
theorem t_X13_look : jv_dec cX13_look t0_X13_look = true := by decide +kernel
def M_X13_look : jm := (yX13_look, cX13_look, 8, (some .int), 7, 155, [])
theorem lk_X13_383 : Cond.methodLink RX13 383 M_X13_lesser.1 ∈ lw_tbl := (jv_at 1882 (by decide +kernel))
set_option maxRecDepth 20000 in
theorem me_X13_lesser : jv_me M_X13_lesser 3 := ⟨(jv_in8 (List.mem_of_getElem? (i := 45) rfl)), (jv_at 172 (by decide +kernel)), ⟨by decide, by decide⟩, by decide +kernel⟩
theorem mv_X13_lesser : jv_mv M_X13_lesser := ⟨(jv_at 1884 (by decide +kernel)), (jv_at 156 (by decide +kernel))⟩
def f_X13_look_h46 (R33 : Nat → Int32 → Int32 → Int32 → Int32 → Int32 → jh → Option (Int32 × jh)) (K33 : Int32 → Int32 → Int32 → jh → Option (Int32 × jh)) (K46 : Nat → Int32 → Int32 → Int32 → Int32 → Int32 → jh → Option (Int32 × jh)) (R46 : Nat → Int32 → Int32 → Int32 → Int32 → Int32 → Int32 → jh → Option (Int32 × jh)) (x0 : Nat) (x1 : Int32) (x2 : Int32) (x3 : Int32) (x4 : Int32) (x5 : Int32) (x6 : Int32) (h : jh) : Option (Int32 × jh) :=
  (if 20 < x6 then
  K46 x0 x1 x2 x3 x4 x5 h
  else
  cV h x0 11 (f_X13_lesser x0 x5 x6 x2 h) fun v11 h12 =>
  (if x4 < v11 then
  R46 x0 x1 x2 ((100 * x5) + x6) v11 x5 (x6 + 1) h12
  else
  R46 x0 x1 x2 x3 x4 x5 (x6 + 1) h12))
theorem o_f_X13_look_h46 {X : jx} {b0 : Nat × Nat} {R33 : Nat → Int32 → Int32 → Int32 → Int32 → Int32 → jh → Option (Int32 × jh)} {K33 : Int32 → Int32 → Int32 → jh → Option (Int32 × jh)} {K46 : Nat → Int32 → Int32 → Int32 → Int32 → Int32 → jh → Option (Int32 × jh)} (hR33 : ∀ (x0 : Nat) (x1 : Int32) (x2 : Int32) (x3 : Int32) (x4 : Int32) (x5 : Int32) (h : jh), jv_O X M_X13_look b0 jeI 33 [some (.ref (x0)), some (.int (x1)), some (.int (x2)), some (.int (x3)), some (.int (x4)), some (.int (x5)), none, none] [] h (R33 x0 x1 x2 x3 x4 x5 h)) (hK33 : ∀ (x1 : Int32) (x3 : Int32) (x4 : Int32) (h : jh), jv_O X M_X13_look b0 jeI 99 [none, some (.int (x1)), none, some (.int (x3)), some (.int (x4)), none, none, none] [] h (K33 x1 x3 x4 h)) (hK46 : ∀ (x0 : Nat) (x1 : Int32) (x2 : Int32) (x3 : Int32) (x4 : Int32) (x5 : Int32) (h : jh), jv_O X M_X13_look b0 jeI 93 [some (.ref (x0)), some (.int (x1)), some (.int (x2)), some (.int (x3)), some (.int (x4)), some (.int (x5)), none, none] [] h (K46 x0 x1 x2 x3 x4 x5 h)) : ∀ (x0 : Nat) (x1 : Int32) (x2 : Int32) (x3 : Int32) (x4 : Int32) (x5 : Int32) (x6 : Int32) (h : jh), jv_O X M_X13_look b0 jeI 46 [some (.ref (x0)), some (.int (x1)), some (.int (x2)), some (.int (x3)), some (.int (x4)), some (.int (x5)), some (.int (x6)), none] [] h (jlp7 (f_X13_look_h46 R33 K33 K46) jfu x0 x1 x2 x3 x4 x5 x6 h) := by
  refine jlp7_ok (P := fun x0 x1 x2 x3 x4 x5 x6 h o => jv_O X M_X13_look b0 jeI 46 [some (.ref (x0)), some (.int (x1)), some (.int (x2)), some (.int (x3)), some (.int (x4)), some (.int (x5)), some (.int (x6)), none] [] h o) (fun R46 hR46 => ?_) (fun _ _ _ _ _ _ _ _  => jv_none rfl) jfu
  intro x0 x1 x2 x3 x4 x5 x6 h
  unfold f_X13_look_h46
  refine jv_iload (jv_dk t_X13_look (k := 28) rfl) rfl ?_
  refine jv_bipush (v := 20) (jv_dk t_X13_look (k := 29) rfl) (by decide) ?_
  refine jv_icmp_gt (tgt := 93) (jv_dk t_X13_look (k := 30) rfl) rfl (fun c10 => ?_) (fun c10 => ?_)
  · refine jv_le_row (jv_le_s (jv_le_s (jv_le_s (jv_le_s (jv_le_s (jv_le_s (jv_le_n (jv_le_n (jv_le_nil))))))))) ?_
    exact hK46 _ _ _ _ _ _ _ 
  · show jv_O _ _ _ _ 53 _ _ _ _
    refine jv_aload_n (jv_dk t_X13_look (k := 31) rfl) rfl rfl (Or.inr ⟨_, rfl⟩) ?_
    refine jv_iload (jv_dk t_X13_look (k := 32) rfl) rfl ?_
    refine jv_iload (jv_dk t_X13_look (k := 33) rfl) rfl ?_
    refine jv_iload_n (jv_dk t_X13_look (k := 34) rfl) rfl rfl ?_
    refine jv_callV (en' := jeI) (pv := jpI) (As := [.int (x5), .int (x6), .int (x2)]) (S := []) (jv_dk t_X13_look (k := 35) rfl) (fun _ => rfl) (Or.inl lk_X13_383) me_X13_lesser mv_X13_lesser ⟨by decide, by decide⟩ rfl rfl rfl (Nat.le_of_ble_eq_true rfl) (P_X13_lesser X x0 x5 x6 x2 h) (fun v11 h12 => ?_)
    show jv_O X M_X13_look _ jeI 62 [some (.ref (x0)), some (.int (x1)), some (.int (x2)), some (.int (x3)), some (.int (x4)), some (.int (x5)), some (.int (x6)), none] [.int (v11)] h12 _
    refine jv_istore (L' := [some (.ref (x0)), some (.int (x1)), some (.int (x2)), some (.int (x3)), some (.int (x4)), some (.int (x5)), some (.int (x6)), some (.int (v11))]) (jv_dk t_X13_look (k := 36) rfl) (Nat.le_of_ble_eq_true rfl) rfl ?_
    refine jv_iload (jv_dk t_X13_look (k := 37) rfl) rfl ?_
    refine jv_iload (jv_dk t_X13_look (k := 38) rfl) rfl ?_
    refine jv_icmp_gt (tgt := 74) (jv_dk t_X13_look (k := 39) rfl) rfl (fun c13 => ?_) (fun c13 => ?_)
    · refine jv_bipush (v := 100) (jv_dk t_X13_look (k := 41) rfl) (by decide) ?_
      refine jv_iload (jv_dk t_X13_look (k := 42) rfl) rfl ?_
      refine jv_imul (jv_dk t_X13_look (k := 43) rfl) ?_
      refine jv_iload (jv_dk t_X13_look (k := 44) rfl) rfl ?_
      refine jv_iadd (jv_dk t_X13_look (k := 45) rfl) ?_
      refine jv_istore_n (L' := [some (.ref (x0)), some (.int (x1)), some (.int (x2)), some (.int ((100 * x5) + x6)), some (.int (x4)), some (.int (x5)), some (.int (x6)), some (.int (v11))]) (jv_dk t_X13_look (k := 46) rfl) rfl (Nat.le_of_ble_eq_true rfl) rfl ?_
      refine jv_iload (jv_dk t_X13_look (k := 47) rfl) rfl ?_
      refine jv_istore (L' := [some (.ref (x0)), some (.int (x1)), some (.int (x2)), some (.int ((100 * x5) + x6)), some (.int (v11)), some (.int (x5)), some (.int (x6)), some (.int (v11))]) (jv_dk t_X13_look (k := 48) rfl) (Nat.le_of_ble_eq_true rfl) rfl ?_
      refine jv_iinc (v := 1) (L' := [some (.ref (x0)), some (.int (x1)), some (.int (x2)), some (.int ((100 * x5) + x6)), some (.int (v11)), some (.int (x5)), some (.int (x6 + 1)), some (.int (v11))]) (jv_dk t_X13_look (k := 49) rfl) rfl (by decide) rfl ?_
      refine jv_goto (tgt := 46) (jv_dk t_X13_look (k := 50) rfl) rfl ?_
      refine jv_le_row (jv_le_s (jv_le_s (jv_le_s (jv_le_s (jv_le_s (jv_le_s (jv_le_s (jv_le_n (jv_le_nil))))))))) ?_
      exact hR46 _ _ _ _ _ _ _ _ 
    · show jv_O _ _ _ _ 71 _ _ _ _
      refine jv_goto (tgt := 87) (jv_dk t_X13_look (k := 40) rfl) rfl ?_
      refine jv_iinc (v := 1) (L' := [some (.ref (x0)), some (.int (x1)), some (.int (x2)), some (.int (x3)), some (.int (x4)), some (.int (x5)), some (.int (x6 + 1)), some (.int (v11))]) (jv_dk t_X13_look (k := 49) rfl) rfl (by decide) rfl ?_
      refine jv_goto (tgt := 46) (jv_dk t_X13_look (k := 50) rfl) rfl ?_
      refine jv_le_row (jv_le_s (jv_le_s (jv_le_s (jv_le_s (jv_le_s (jv_le_s (jv_le_s (jv_le_n (jv_le_nil))))))))) ?_
      exact hR46 _ _ _ _ _ _ _ _ 
def f_X13_look_h33 (K33 : Int32 → Int32 → Int32 → jh → Option (Int32 × jh)) (R33 : Nat → Int32 → Int32 → Int32 → Int32 → Int32 → jh → Option (Int32 × jh)) (x0 : Nat) (x1 : Int32) (x2 : Int32) (x3 : Int32) (x4 : Int32) (x5 : Int32) (h : jh) : Option (Int32 × jh) :=
  cV h x0 11 (f_X13_many x0 0 h) fun v7 h8 =>
  (if v7 ≤ x5 then
  K33 x1 x3 x4 h8
  else
  jlp7 (f_X13_look_h46 R33 K33 (fun y15 y16 y17 y18 y19 y20 h14 =>
  R33 y15 y16 y17 y18 y19 (y20 + 1) h14)) jfu x0 x1 x2 x3 x4 x5 1 h8)
theorem o_f_X13_look_h33 {X : jx} {b0 : Nat × Nat} {K33 : Int32 → Int32 → Int32 → jh → Option (Int32 × jh)} (hK33 : ∀ (x1 : Int32) (x3 : Int32) (x4 : Int32) (h : jh), jv_O X M_X13_look b0 jeI 99 [none, some (.int (x1)), none, some (.int (x3)), some (.int (x4)), none, none, none] [] h (K33 x1 x3 x4 h)) : ∀ (x0 : Nat) (x1 : Int32) (x2 : Int32) (x3 : Int32) (x4 : Int32) (x5 : Int32) (h : jh), jv_O X M_X13_look b0 jeI 33 [some (.ref (x0)), some (.int (x1)), some (.int (x2)), some (.int (x3)), some (.int (x4)), some (.int (x5)), none, none] [] h (jlp6 (f_X13_look_h33 K33) jfu x0 x1 x2 x3 x4 x5 h) := by
  refine jlp6_ok (P := fun x0 x1 x2 x3 x4 x5 h o => jv_O X M_X13_look b0 jeI 33 [some (.ref (x0)), some (.int (x1)), some (.int (x2)), some (.int (x3)), some (.int (x4)), some (.int (x5)), none, none] [] h o) (fun R33 hR33 => ?_) (fun _ _ _ _ _ _ _  => jv_none rfl) jfu
  intro x0 x1 x2 x3 x4 x5 h
  unfold f_X13_look_h33
  refine jv_iload (jv_dk t_X13_look (k := 21) rfl) rfl ?_
  refine jv_aload_n (jv_dk t_X13_look (k := 22) rfl) rfl rfl (Or.inr ⟨_, rfl⟩) ?_
  refine jv_iconst (v := 0) (jv_dk t_X13_look (k := 23) rfl) (by decide) ?_
  refine jv_callV (en' := jeI) (pv := jpI) (As := [.int (0)]) (S := [.int (x5)]) (jv_dk t_X13_look (k := 24) rfl) (fun _ => rfl) (Or.inl lk_X13_208) me_X13_many mv_X13_many ⟨by decide, by decide⟩ rfl rfl rfl (Nat.le_of_ble_eq_true rfl) (P_X13_many X x0 0 h) (fun v7 h8 => ?_)
  show jv_O X M_X13_look _ jeI 40 [some (.ref (x0)), some (.int (x1)), some (.int (x2)), some (.int (x3)), some (.int (x4)), some (.int (x5)), none, none] [.int (v7), .int (x5)] h8 _
  refine jv_icmp_ge (tgt := 99) (jv_dk t_X13_look (k := 25) rfl) rfl (fun c9 => ?_) (fun c9 => ?_)
  · refine jv_le_row (jv_le_n (jv_le_s (jv_le_n (jv_le_s (jv_le_s (jv_le_n (jv_le_n (jv_le_n (jv_le_nil))))))))) ?_
    exact hK33 _ _ _ _ 
  · show jv_O _ _ _ _ 43 _ _ _ _
    refine jv_iconst (v := 1) (jv_dk t_X13_look (k := 26) rfl) (by decide) ?_
    refine jv_istore (L' := [some (.ref (x0)), some (.int (x1)), some (.int (x2)), some (.int (x3)), some (.int (x4)), some (.int (x5)), some (.int (1)), none]) (jv_dk t_X13_look (k := 27) rfl) (Nat.le_of_ble_eq_true rfl) rfl ?_
    refine o_f_X13_look_h46 hR33 hK33 (fun y15 y16 y17 y18 y19 y20 h14 => ?_) _ _ _ _ _ _ _ _ 
    show jv_O X M_X13_look _ jeI 93 [some (.ref (y15)), some (.int (y16)), some (.int (y17)), some (.int (y18)), some (.int (y19)), some (.int (y20)), none, none] [] h14 _
    refine jv_iinc (v := 1) (L' := [some (.ref (y15)), some (.int (y16)), some (.int (y17)), some (.int (y18)), some (.int (y19)), some (.int (y20 + 1)), none, none]) (jv_dk t_X13_look (k := 51) rfl) rfl (by decide) rfl ?_
    refine jv_goto (tgt := 33) (jv_dk t_X13_look (k := 52) rfl) rfl ?_
    exact hR33 _ _ _ _ _ _ _ 
def f_X13_look (a0 : Nat) (a1 : Int32) (h : jh) : Option (Int32 × jh) :=
  pV h a0 11 1 (.int (0)) fun h1 =>
  bd (f_X13_isIn a1 0 1 h1) fun v2 h3 =>
  (if ¬ v2 = 0 then
  cV h3 a0 11 (f_X13_fitting a0 h3) fun v5 h6 =>
  jlp6 (f_X13_look_h33 (fun y22 y23 y24 h21 =>
  (if ¬ y22 = 0 then
  some (y24, h21)
  else
  some (y23, h21)))) jfu a0 a1 v5 (-1) 0 0 h6
  else
  cV h3 a0 11 (f_X13_fail a0 1 h3) fun v26 h27 =>
  some (v26, h27))
theorem P_X13_look (X : jx) (a0 : Nat) (a1 : Int32) (h : jh) : jv_P X M_X13_look jeI [.ref (a0), .int (a1)] h (f_X13_look a0 a1 h) := by
  refine jv_P.of (by decide) rfl (by simp [Value.category]) (Nat.le_of_ble_eq_true rfl) ?_
  show jv_O X M_X13_look (h.1, h.2.1) jeI 0 [some (.ref (a0)), some (.int (a1)), none, none, none, none, none, none] [] h (f_X13_look a0 a1 h)
  unfold f_X13_look
  refine jv_aload_n (jv_dk t_X13_look (k := 0) rfl) rfl rfl (Or.inr ⟨_, rfl⟩) ?_
  refine jv_iconst (v := 0) (jv_dk t_X13_look (k := 1) rfl) (by decide) ?_
  refine jv_pV (jv_dk t_X13_look (k := 2) rfl) fl_X13_96 kX13 (Or.inl rfl) rfl rfl rfl (fun h1 => ?_)
  refine jv_iload_n (jv_dk t_X13_look (k := 3) rfl) rfl rfl ?_
  refine jv_iconst (v := 0) (jv_dk t_X13_look (k := 4) rfl) (by decide) ?_
  refine jv_iconst (v := 1) (jv_dk t_X13_look (k := 5) rfl) (by decide) ?_
  refine jv_callS (en' := jeI) (pv := jpI) (As := [.int (a1), .int (0), .int (1)]) (S := []) (jv_dk t_X13_look (k := 6) rfl) (fun _ => rfl) (Or.inl lk_X13_169) me_X13_isIn ms_X13_isIn ⟨by decide, by decide⟩ rfl rfl (Nat.le_of_ble_eq_true rfl) (P_X13_isIn X a1 0 1 h1) (fun v2 h3 => ?_)
  show jv_O X M_X13_look _ jeI 11 [some (.ref (a0)), some (.int (a1)), none, none, none, none, none, none] [.int (v2)] h3 _
  refine jv_if_ne (tgt := 20) (jv_dk t_X13_look (k := 7) rfl) rfl (fun c4 => ?_) (fun c4 => ?_)
  · refine jv_aload_n (jv_dk t_X13_look (k := 12) rfl) rfl rfl (Or.inr ⟨_, rfl⟩) ?_
    refine jv_callV (en' := jeI) (pv := jpI) (As := []) (S := []) (jv_dk t_X13_look (k := 13) rfl) (fun _ => rfl) (Or.inl lk_X13_380) me_X13_fitting mv_X13_fitting ⟨by decide, by decide⟩ rfl rfl rfl (Nat.le_of_ble_eq_true rfl) (P_X13_fitting X a0 h3) (fun v5 h6 => ?_)
    show jv_O X M_X13_look _ jeI 24 [some (.ref (a0)), some (.int (a1)), none, none, none, none, none, none] [.int (v5)] h6 _
    refine jv_istore_n (L' := [some (.ref (a0)), some (.int (a1)), some (.int (v5)), none, none, none, none, none]) (jv_dk t_X13_look (k := 14) rfl) rfl (Nat.le_of_ble_eq_true rfl) rfl ?_
    refine jv_iconst (v := (-1)) (jv_dk t_X13_look (k := 15) rfl) (by decide) ?_
    refine jv_istore_n (L' := [some (.ref (a0)), some (.int (a1)), some (.int (v5)), some (.int ((-1))), none, none, none, none]) (jv_dk t_X13_look (k := 16) rfl) rfl (Nat.le_of_ble_eq_true rfl) rfl ?_
    refine jv_iconst (v := 0) (jv_dk t_X13_look (k := 17) rfl) (by decide) ?_
    refine jv_istore (L' := [some (.ref (a0)), some (.int (a1)), some (.int (v5)), some (.int ((-1))), some (.int (0)), none, none, none]) (jv_dk t_X13_look (k := 18) rfl) (Nat.le_of_ble_eq_true rfl) rfl ?_
    refine jv_iconst (v := 0) (jv_dk t_X13_look (k := 19) rfl) (by decide) ?_
    refine jv_istore (L' := [some (.ref (a0)), some (.int (a1)), some (.int (v5)), some (.int ((-1))), some (.int (0)), some (.int (0)), none, none]) (jv_dk t_X13_look (k := 20) rfl) (Nat.le_of_ble_eq_true rfl) rfl ?_
    refine o_f_X13_look_h33 (fun y22 y23 y24 h21 => ?_) _ _ _ _ _ _ _ 
    show jv_O X M_X13_look _ jeI 99 [none, some (.int (y22)), none, some (.int (y23)), some (.int (y24)), none, none, none] [] h21 _
    refine jv_iload_n (jv_dk t_X13_look (k := 53) rfl) rfl rfl ?_
    refine jv_if_ne (tgt := 107) (jv_dk t_X13_look (k := 54) rfl) rfl (fun c25 => ?_) (fun c25 => ?_)
    · refine jv_iload (jv_dk t_X13_look (k := 57) rfl) rfl ?_
      exact jv_iret (ty := .int) (jv_dk t_X13_look (k := 58) rfl) rfl rfl rfl
    · show jv_O _ _ _ _ 103 _ _ _ _
      refine jv_iload_n (jv_dk t_X13_look (k := 55) rfl) rfl rfl ?_
      refine jv_goto (tgt := 109) (jv_dk t_X13_look (k := 56) rfl) rfl ?_
      exact jv_iret (ty := .int) (jv_dk t_X13_look (k := 58) rfl) rfl rfl rfl
  · show jv_O _ _ _ _ 14 _ _ _ _
    refine jv_aload_n (jv_dk t_X13_look (k := 8) rfl) rfl rfl (Or.inr ⟨_, rfl⟩) ?_
    refine jv_iconst (v := 1) (jv_dk t_X13_look (k := 9) rfl) (by decide) ?_
    refine jv_callV (en' := jeI) (pv := jpI) (As := [.int (1)]) (S := []) (jv_dk t_X13_look (k := 10) rfl) (fun _ => rfl) (Or.inl lk_X13_185) me_X13_fail mv_X13_fail ⟨by decide, by decide⟩ rfl rfl rfl (Nat.le_of_ble_eq_true rfl) (P_X13_fail X a0 1 h3) (fun v26 h27 => ?_)
    show jv_O X M_X13_look _ jeI 19 [some (.ref (a0)), some (.int (a1)), none, none, none, none, none, none] [.int (v26)] h27 _
    exact jv_iret (ty := .int) (jv_dk t_X13_look (k := 11) rfl) rfl rfl rfl
def t0_X13_draw : List (Nat × Instr × Nat) := [(0, .aload_n 0, 1), (1, .aload_n 0, 1), (2, .getfield 386, 3), (5, .ldc_w 389, 3), (8, .imul, 1), (9, .sipush 12345, 3), (12, .iadd, 1), (13, .putfield 386, 3), (16, .aload_n 0, 1), (17, .getfield 386, 3), (20, .bipush 16, 2), (22, .ishr, 1), (23, .sipush 32767, 3), (26, .iand, 1), (27, .iload_n 1, 1), (28, .irem, 1), (29, .ireturn, 1)]
theorem t_X13_draw : jv_dec cX13_draw t0_X13_draw = true := by decide +kernel
def M_X13_draw : jm := (yX13_draw, cX13_draw, 2, (some .int), 0, 0, [])
theorem fl_X13_386 : jv_F RX13 386 11 26 RX13 TX13 36 := ⟨rfl, by decide, inX13, Or.inl (jv_at 1398 (by decide +kernel))⟩
theorem cn_X13_389 : Cond.constant RX13 389 1103515245 ∈ lw_tbl := (jv_at 1898 (by decide +kernel))
def f_X13_draw (a0 : Nat) (a1 : Int32) (h : jh) : Option (Int32 × jh) :=
  gI h a0 11 26 fun v1 =>
  pV h a0 11 26 (.int ((v1 * 1103515245) + 12345)) fun h2 =>
  gI h2 a0 11 26 fun v3 =>
  if a1 = 0 then none else
  some (((v3 >>> ((16 : Int32) &&& 31)) &&& 32767) - ((v3 >>> ((16 : Int32) &&& 31)) &&& 32767) / a1 * a1, h2)
theorem P_X13_draw (X : jx) (a0 : Nat) (a1 : Int32) (h : jh) : jv_P X M_X13_draw jeI [.ref (a0), .int (a1)] h (f_X13_draw a0 a1 h) := by
  refine jv_P.of (by decide) rfl (by simp [Value.category]) (Nat.le_of_ble_eq_true rfl) ?_
  show jv_O X M_X13_draw (h.1, h.2.1) jeI 0 [some (.ref (a0)), some (.int (a1))] [] h (f_X13_draw a0 a1 h)
  unfold f_X13_draw
  refine jv_aload_n (jv_dk t_X13_draw (k := 0) rfl) rfl rfl (Or.inr ⟨_, rfl⟩) ?_
  refine jv_aload_n (jv_dk t_X13_draw (k := 1) rfl) rfl rfl (Or.inr ⟨_, rfl⟩) ?_
  refine jv_gI (jv_dk t_X13_draw (k := 2) rfl) fl_X13_386 (fun v1 => ?_)
  refine jv_ldcw (jv_dk t_X13_draw (k := 3) rfl) cn_X13_389 ?_
  refine jv_imul (jv_dk t_X13_draw (k := 4) rfl) ?_
  refine jv_sipush (v := 12345) (jv_dk t_X13_draw (k := 5) rfl) (by decide) ?_
  refine jv_iadd (jv_dk t_X13_draw (k := 6) rfl) ?_
  refine jv_pV (jv_dk t_X13_draw (k := 7) rfl) fl_X13_386 kX13 (Or.inl rfl) rfl rfl rfl (fun h2 => ?_)
  refine jv_aload_n (jv_dk t_X13_draw (k := 8) rfl) rfl rfl (Or.inr ⟨_, rfl⟩) ?_
  refine jv_gI (jv_dk t_X13_draw (k := 9) rfl) fl_X13_386 (fun v3 => ?_)
  refine jv_bipush (v := 16) (jv_dk t_X13_draw (k := 10) rfl) (by decide) ?_
  refine jv_ishr (jv_dk t_X13_draw (k := 11) rfl) ?_
  refine jv_sipush (v := 32767) (jv_dk t_X13_draw (k := 12) rfl) (by decide) ?_
  refine jv_iand (jv_dk t_X13_draw (k := 13) rfl) ?_
  refine jv_iload_n (jv_dk t_X13_draw (k := 14) rfl) rfl rfl ?_
  by_cases c4 : a1 = 0
  · rw [if_pos c4]; exact jv_none rfl
  rw [if_neg c4]
  refine jv_irem (jv_dk t_X13_draw (k := 15) rfl) c4 ?_
  exact jv_iret (ty := .int) (jv_dk t_X13_draw (k := 16) rfl) rfl rfl rfl
def t0_X13_happens : List (Nat × Instr × Nat) := [(0, .aload_n 0, 1), (1, .aload_n 0, 1), (2, .getfield 31, 3), (5, .arraylength, 1), (6, .invokevirtual 390, 3), (9, .istore_n 1, 1), (10, .aload_n 0, 1), (11, .bipush 16, 2), (13, .invokevirtual 390, 3), (16, .istore_n 2, 1), (17, .iconst 0, 1), (18, .istore_n 3, 1), (19, .iconst 0, 1), (20, .istore 4, 2), (22, .iconst 0, 1), (23, .istore 5, 2), (25, .iconst 0, 1), (26, .istore 6, 2), (28, .iload_n 1, 1), (29, .bipush 7, 2), (31, .if_icmp .ne 42, 3), (34, .aload_n 0, 1), (35, .bipush 16, 2), (37, .invokevirtual 390, 3), (40, .istore_n 3, 1), (41, .aload_n 0, 1), (42, .iconst 3, 1), (43, .invokevirtual 390, 3), (46, .istore 7, 2), (48, .iload 7, 2), (50, .ifCond .ne 7, 3), (53, .iconst 1, 1), (54, .goto 14, 3), (57, .iload 7, 2), (59, .iconst 1, 1), (60, .if_icmp .ne 7, 3), (63, .iconst 0, 1), (64, .goto 4, 3), (67, .iconst 2, 1), (68, .istore 4, 2), (70, .goto 96, 3), (73, .iload_n 1, 1), (74, .iconst 4, 1), (75, .if_icmp .ne 39, 3), (78, .aload_n 0, 1), (79, .bipush 8, 2), (81, .invokevirtual 390, 3), (84, .istore_n 3, 1), (85, .aload_n 0, 1), (86, .bipush 100, 2), (88, .invokevirtual 390, 3), (91, .istore 4, 2), (93, .aload_n 0, 1), (94, .bipush 100, 2), (96, .invokevirtual 390, 3), (99, .istore 5, 2), (101, .aload_n 0, 1), (102, .bipush 20, 2), (104, .invokevirtual 390, 3), (107, .iconst 1, 1), (108, .iadd, 1), (109, .istore 6, 2), (111, .goto 55, 3), (114, .iload_n 1, 1), (115, .iconst 5, 1), (116, .if_icmp .ne 13, 3), (119, .aload_n 0, 1), (120, .bipush 100, 2), (122, .invokevirtual 390, 3), (125, .istore_n 3, 1), (126, .goto 40, 3), (129, .iload_n 1, 1), (130, .bipush 6, 2), (132, .if_icmp .ne 21, 3), (135, .aload_n 0, 1), (136, .bipush 8, 2), (138, .invokevirtual 390, 3), (141, .istore_n 3, 1), (142, .aload_n 0, 1), (143, .bipush 100, 2), (145, .invokevirtual 390, 3), (148, .istore 4, 2), (150, .goto 16, 3), (153, .iload_n 1, 1), (154, .bipush 9, 2), (156, .if_icmp .ne 10, 3), (159, .aload_n 0, 1), (160, .bipush 16, 2), (162, .invokevirtual 390, 3), (165, .istore_n 3, 1), (166, .aload_n 0, 1), (167, .iload_n 1, 1), (168, .iload_n 2, 1), (169, .iload_n 3, 1), (170, .iload 4, 2), (172, .iload 5, 2), (174, .iload 6, 2), (176, .invokevirtual 191, 3), (179, .iconst (-1), 1), (180, .if_icmp .eq 7, 3), (183, .iconst 1, 1), (184, .goto 4, 3), (187, .iconst 0, 1), (188, .ireturn, 1)]
theorem t_X13_happens : jv_dec cX13_happens t0_X13_happens = true := by decide +kernel
def M_X13_happens : jm := (yX13_happens, cX13_happens, 8, (some .boolean), 7, 174, [])
theorem lk_X13_390 : Cond.methodLink RX13 390 M_X13_draw.1 ∈ lw_tbl := (jv_at 1894 (by decide +kernel))
set_option maxRecDepth 20000 in
theorem me_X13_draw : jv_me M_X13_draw 1 := ⟨(jv_in8 (List.mem_of_getElem? (i := 57) rfl)), (jv_at 172 (by decide +kernel)), ⟨by decide, by decide⟩, by decide +kernel⟩
theorem mv_X13_draw : jv_mv M_X13_draw := ⟨(jv_at 1896 (by decide +kernel)), (jv_at 158 (by decide +kernel))⟩
def f_X13_happens_b166 (x0 : Nat) (x1 : Int32) (x2 : Int32) (x3 : Int32) (x4 : Int32) (x5 : Int32) (x6 : Int32) (h : jh) : Option (Int32 × jh) :=
  cV h x0 11 (f_X13_does x0 x1 x2 x3 x4 x5 x6 h) fun v12 h13 =>
  (if v12 = (-1) then
  some (0, h13)
  else
  some (1, h13))
theorem o_f_X13_happens_b166 {X : jx} {b0 : Nat × Nat} (x0 : Nat) (x1 : Int32) (x2 : Int32) (x3 : Int32) (x4 : Int32) (x5 : Int32) (x6 : Int32) (h : jh) : jv_O X M_X13_happens b0 jeI 166 [some (.ref (x0)), some (.int (x1)), some (.int (x2)), some (.int (x3)), some (.int (x4)), some (.int (x5)), some (.int (x6)), none] [] h (f_X13_happens_b166 x0 x1 x2 x3 x4 x5 x6 h) := by
  unfold f_X13_happens_b166
  refine jv_aload_n (jv_dk t_X13_happens (k := 90) rfl) rfl rfl (Or.inr ⟨_, rfl⟩) ?_
  refine jv_iload_n (jv_dk t_X13_happens (k := 91) rfl) rfl rfl ?_
  refine jv_iload_n (jv_dk t_X13_happens (k := 92) rfl) rfl rfl ?_
  refine jv_iload_n (jv_dk t_X13_happens (k := 93) rfl) rfl rfl ?_
  refine jv_iload (jv_dk t_X13_happens (k := 94) rfl) rfl ?_
  refine jv_iload (jv_dk t_X13_happens (k := 95) rfl) rfl ?_
  refine jv_iload (jv_dk t_X13_happens (k := 96) rfl) rfl ?_
  refine jv_callV (en' := jeI) (pv := jpI) (As := [.int (x1), .int (x2), .int (x3), .int (x4), .int (x5), .int (x6)]) (S := []) (jv_dk t_X13_happens (k := 97) rfl) (fun _ => rfl) (Or.inl lk_X13_191) me_X13_does mv_X13_does ⟨by decide, by decide⟩ rfl rfl rfl (Nat.le_of_ble_eq_true rfl) (P_X13_does X x0 x1 x2 x3 x4 x5 x6 h) (fun v12 h13 => ?_)
  show jv_O X M_X13_happens _ jeI 179 [some (.ref (x0)), some (.int (x1)), some (.int (x2)), some (.int (x3)), some (.int (x4)), some (.int (x5)), some (.int (x6)), none] [.int (v12)] h13 _
  refine jv_iconst (v := (-1)) (jv_dk t_X13_happens (k := 98) rfl) (by decide) ?_
  refine jv_icmp_eq (tgt := 187) (jv_dk t_X13_happens (k := 99) rfl) rfl (fun c14 => ?_) (fun c14 => ?_)
  · refine jv_iconst (v := 0) (jv_dk t_X13_happens (k := 102) rfl) (by decide) ?_
    exact jv_iret (ty := .boolean) (jv_dk t_X13_happens (k := 103) rfl) rfl rfl rfl
  · show jv_O _ _ _ _ 183 _ _ _ _
    refine jv_iconst (v := 1) (jv_dk t_X13_happens (k := 100) rfl) (by decide) ?_
    refine jv_goto (tgt := 188) (jv_dk t_X13_happens (k := 101) rfl) rfl ?_
    exact jv_iret (ty := .boolean) (jv_dk t_X13_happens (k := 103) rfl) rfl rfl rfl
def f_X13_happens (a0 : Nat) (h : jh) : Option (Int32 × jh) :=
  gR h a0 11 0 fun v1 =>
  lnQ h 3 v1 fun v2 =>
  cV h a0 11 (f_X13_draw a0 v2 h) fun v3 h4 =>
  cV h4 a0 11 (f_X13_draw a0 16 h4) fun v5 h6 =>
  (if ¬ v3 = 7 then
  (if ¬ v3 = 4 then
  (if ¬ v3 = 5 then
  (if ¬ v3 = 6 then
  (if ¬ v3 = 9 then
  f_X13_happens_b166 a0 v3 v5 0 0 0 0 h6
  else
  cV h6 a0 11 (f_X13_draw a0 16 h6) fun v15 h16 =>
  f_X13_happens_b166 a0 v3 v5 v15 0 0 0 h16)
  else
  cV h6 a0 11 (f_X13_draw a0 8 h6) fun v17 h18 =>
  cV h18 a0 11 (f_X13_draw a0 100 h18) fun v19 h20 =>
  f_X13_happens_b166 a0 v3 v5 v17 v19 0 0 h20)
  else
  cV h6 a0 11 (f_X13_draw a0 100 h6) fun v21 h22 =>
  f_X13_happens_b166 a0 v3 v5 v21 0 0 0 h22)
  else
  cV h6 a0 11 (f_X13_draw a0 8 h6) fun v23 h24 =>
  cV h24 a0 11 (f_X13_draw a0 100 h24) fun v25 h26 =>
  cV h26 a0 11 (f_X13_draw a0 100 h26) fun v27 h28 =>
  cV h28 a0 11 (f_X13_draw a0 20 h28) fun v29 h30 =>
  f_X13_happens_b166 a0 v3 v5 v23 v25 v27 (v29 + 1) h30)
  else
  cV h6 a0 11 (f_X13_draw a0 16 h6) fun v31 h32 =>
  cV h32 a0 11 (f_X13_draw a0 3 h32) fun v33 h34 =>
  (if ¬ v33 = 0 then
  (if ¬ v33 = 1 then
  f_X13_happens_b166 a0 v3 v5 v31 2 0 0 h34
  else
  f_X13_happens_b166 a0 v3 v5 v31 0 0 0 h34)
  else
  f_X13_happens_b166 a0 v3 v5 v31 1 0 0 h34))
theorem P_X13_happens (X : jx) (a0 : Nat) (h : jh) : jv_P X M_X13_happens jeI [.ref (a0)] h (f_X13_happens a0 h) := by
  refine jv_P.of (by decide) rfl (by simp [Value.category]) (Nat.le_of_ble_eq_true rfl) ?_
  show jv_O X M_X13_happens (h.1, h.2.1) jeI 0 [some (.ref (a0)), none, none, none, none, none, none, none] [] h (f_X13_happens a0 h)
  unfold f_X13_happens
  refine jv_aload_n (jv_dk t_X13_happens (k := 0) rfl) rfl rfl (Or.inr ⟨_, rfl⟩) ?_
  refine jv_aload_n (jv_dk t_X13_happens (k := 1) rfl) rfl rfl (Or.inr ⟨_, rfl⟩) ?_
  refine jv_gR (jv_dk t_X13_happens (k := 2) rfl) fl_X13_31 (fun v1 => ?_)
  refine jv_lnS (jv_dk t_X13_happens (k := 3) rfl) (fun v2 => ?_)
  refine jv_callV (en' := jeI) (pv := jpI) (As := [.int (v2)]) (S := []) (jv_dk t_X13_happens (k := 4) rfl) (fun _ => rfl) (Or.inl lk_X13_390) me_X13_draw mv_X13_draw ⟨by decide, by decide⟩ rfl rfl rfl (Nat.le_of_ble_eq_true rfl) (P_X13_draw X a0 v2 h) (fun v3 h4 => ?_)
  show jv_O X M_X13_happens _ jeI 9 [some (.ref (a0)), none, none, none, none, none, none, none] [.int (v3)] h4 _
  refine jv_istore_n (L' := [some (.ref (a0)), some (.int (v3)), none, none, none, none, none, none]) (jv_dk t_X13_happens (k := 5) rfl) rfl (Nat.le_of_ble_eq_true rfl) rfl ?_
  refine jv_aload_n (jv_dk t_X13_happens (k := 6) rfl) rfl rfl (Or.inr ⟨_, rfl⟩) ?_
  refine jv_bipush (v := 16) (jv_dk t_X13_happens (k := 7) rfl) (by decide) ?_
  refine jv_callV (en' := jeI) (pv := jpI) (As := [.int (16)]) (S := []) (jv_dk t_X13_happens (k := 8) rfl) (fun _ => rfl) (Or.inl lk_X13_390) me_X13_draw mv_X13_draw ⟨by decide, by decide⟩ rfl rfl rfl (Nat.le_of_ble_eq_true rfl) (P_X13_draw X a0 16 h4) (fun v5 h6 => ?_)
  show jv_O X M_X13_happens _ jeI 16 [some (.ref (a0)), some (.int (v3)), none, none, none, none, none, none] [.int (v5)] h6 _
  refine jv_istore_n (L' := [some (.ref (a0)), some (.int (v3)), some (.int (v5)), none, none, none, none, none]) (jv_dk t_X13_happens (k := 9) rfl) rfl (Nat.le_of_ble_eq_true rfl) rfl ?_
  refine jv_iconst (v := 0) (jv_dk t_X13_happens (k := 10) rfl) (by decide) ?_
  refine jv_istore_n (L' := [some (.ref (a0)), some (.int (v3)), some (.int (v5)), some (.int (0)), none, none, none, none]) (jv_dk t_X13_happens (k := 11) rfl) rfl (Nat.le_of_ble_eq_true rfl) rfl ?_
  refine jv_iconst (v := 0) (jv_dk t_X13_happens (k := 12) rfl) (by decide) ?_
  refine jv_istore (L' := [some (.ref (a0)), some (.int (v3)), some (.int (v5)), some (.int (0)), some (.int (0)), none, none, none]) (jv_dk t_X13_happens (k := 13) rfl) (Nat.le_of_ble_eq_true rfl) rfl ?_
  refine jv_iconst (v := 0) (jv_dk t_X13_happens (k := 14) rfl) (by decide) ?_
  refine jv_istore (L' := [some (.ref (a0)), some (.int (v3)), some (.int (v5)), some (.int (0)), some (.int (0)), some (.int (0)), none, none]) (jv_dk t_X13_happens (k := 15) rfl) (Nat.le_of_ble_eq_true rfl) rfl ?_
  refine jv_iconst (v := 0) (jv_dk t_X13_happens (k := 16) rfl) (by decide) ?_
  refine jv_istore (L' := [some (.ref (a0)), some (.int (v3)), some (.int (v5)), some (.int (0)), some (.int (0)), some (.int (0)), some (.int (0)), none]) (jv_dk t_X13_happens (k := 17) rfl) (Nat.le_of_ble_eq_true rfl) rfl ?_
  refine jv_iload_n (jv_dk t_X13_happens (k := 18) rfl) rfl rfl ?_
  refine jv_bipush (v := 7) (jv_dk t_X13_happens (k := 19) rfl) (by decide) ?_
  refine jv_icmp_ne (tgt := 73) (jv_dk t_X13_happens (k := 20) rfl) rfl (fun c7 => ?_) (fun c7 => ?_)
  · refine jv_iload_n (jv_dk t_X13_happens (k := 41) rfl) rfl rfl ?_
    refine jv_iconst (v := 4) (jv_dk t_X13_happens (k := 42) rfl) (by decide) ?_
    refine jv_icmp_ne (tgt := 114) (jv_dk t_X13_happens (k := 43) rfl) rfl (fun c8 => ?_) (fun c8 => ?_)
    · refine jv_iload_n (jv_dk t_X13_happens (k := 63) rfl) rfl rfl ?_
      refine jv_iconst (v := 5) (jv_dk t_X13_happens (k := 64) rfl) (by decide) ?_
      refine jv_icmp_ne (tgt := 129) (jv_dk t_X13_happens (k := 65) rfl) rfl (fun c9 => ?_) (fun c9 => ?_)
      · refine jv_iload_n (jv_dk t_X13_happens (k := 71) rfl) rfl rfl ?_
        refine jv_bipush (v := 6) (jv_dk t_X13_happens (k := 72) rfl) (by decide) ?_
        refine jv_icmp_ne (tgt := 153) (jv_dk t_X13_happens (k := 73) rfl) rfl (fun c10 => ?_) (fun c10 => ?_)
        · refine jv_iload_n (jv_dk t_X13_happens (k := 83) rfl) rfl rfl ?_
          refine jv_bipush (v := 9) (jv_dk t_X13_happens (k := 84) rfl) (by decide) ?_
          refine jv_icmp_ne (tgt := 166) (jv_dk t_X13_happens (k := 85) rfl) rfl (fun c11 => ?_) (fun c11 => ?_)
          · exact o_f_X13_happens_b166 _ _ _ _ _ _ _ _ 
          · show jv_O _ _ _ _ 159 _ _ _ _
            refine jv_aload_n (jv_dk t_X13_happens (k := 86) rfl) rfl rfl (Or.inr ⟨_, rfl⟩) ?_
            refine jv_bipush (v := 16) (jv_dk t_X13_happens (k := 87) rfl) (by decide) ?_
            refine jv_callV (en' := jeI) (pv := jpI) (As := [.int (16)]) (S := []) (jv_dk t_X13_happens (k := 88) rfl) (fun _ => rfl) (Or.inl lk_X13_390) me_X13_draw mv_X13_draw ⟨by decide, by decide⟩ rfl rfl rfl (Nat.le_of_ble_eq_true rfl) (P_X13_draw X a0 16 h6) (fun v15 h16 => ?_)
            show jv_O X M_X13_happens _ jeI 165 [some (.ref (a0)), some (.int (v3)), some (.int (v5)), some (.int (0)), some (.int (0)), some (.int (0)), some (.int (0)), none] [.int (v15)] h16 _
            refine jv_istore_n (L' := [some (.ref (a0)), some (.int (v3)), some (.int (v5)), some (.int (v15)), some (.int (0)), some (.int (0)), some (.int (0)), none]) (jv_dk t_X13_happens (k := 89) rfl) rfl (Nat.le_of_ble_eq_true rfl) rfl ?_
            exact o_f_X13_happens_b166 _ _ _ _ _ _ _ _ 
        · show jv_O _ _ _ _ 135 _ _ _ _
          refine jv_aload_n (jv_dk t_X13_happens (k := 74) rfl) rfl rfl (Or.inr ⟨_, rfl⟩) ?_
          refine jv_bipush (v := 8) (jv_dk t_X13_happens (k := 75) rfl) (by decide) ?_
          refine jv_callV (en' := jeI) (pv := jpI) (As := [.int (8)]) (S := []) (jv_dk t_X13_happens (k := 76) rfl) (fun _ => rfl) (Or.inl lk_X13_390) me_X13_draw mv_X13_draw ⟨by decide, by decide⟩ rfl rfl rfl (Nat.le_of_ble_eq_true rfl) (P_X13_draw X a0 8 h6) (fun v17 h18 => ?_)
          show jv_O X M_X13_happens _ jeI 141 [some (.ref (a0)), some (.int (v3)), some (.int (v5)), some (.int (0)), some (.int (0)), some (.int (0)), some (.int (0)), none] [.int (v17)] h18 _
          refine jv_istore_n (L' := [some (.ref (a0)), some (.int (v3)), some (.int (v5)), some (.int (v17)), some (.int (0)), some (.int (0)), some (.int (0)), none]) (jv_dk t_X13_happens (k := 77) rfl) rfl (Nat.le_of_ble_eq_true rfl) rfl ?_
          refine jv_aload_n (jv_dk t_X13_happens (k := 78) rfl) rfl rfl (Or.inr ⟨_, rfl⟩) ?_
          refine jv_bipush (v := 100) (jv_dk t_X13_happens (k := 79) rfl) (by decide) ?_
          refine jv_callV (en' := jeI) (pv := jpI) (As := [.int (100)]) (S := []) (jv_dk t_X13_happens (k := 80) rfl) (fun _ => rfl) (Or.inl lk_X13_390) me_X13_draw mv_X13_draw ⟨by decide, by decide⟩ rfl rfl rfl (Nat.le_of_ble_eq_true rfl) (P_X13_draw X a0 100 h18) (fun v19 h20 => ?_)
          show jv_O X M_X13_happens _ jeI 148 [some (.ref (a0)), some (.int (v3)), some (.int (v5)), some (.int (v17)), some (.int (0)), some (.int (0)), some (.int (0)), none] [.int (v19)] h20 _
          refine jv_istore (L' := [some (.ref (a0)), some (.int (v3)), some (.int (v5)), some (.int (v17)), some (.int (v19)), some (.int (0)), some (.int (0)), none]) (jv_dk t_X13_happens (k := 81) rfl) (Nat.le_of_ble_eq_true rfl) rfl ?_
          refine jv_goto (tgt := 166) (jv_dk t_X13_happens (k := 82) rfl) rfl ?_
          exact o_f_X13_happens_b166 _ _ _ _ _ _ _ _ 
      · show jv_O _ _ _ _ 119 _ _ _ _
        refine jv_aload_n (jv_dk t_X13_happens (k := 66) rfl) rfl rfl (Or.inr ⟨_, rfl⟩) ?_
        refine jv_bipush (v := 100) (jv_dk t_X13_happens (k := 67) rfl) (by decide) ?_
        refine jv_callV (en' := jeI) (pv := jpI) (As := [.int (100)]) (S := []) (jv_dk t_X13_happens (k := 68) rfl) (fun _ => rfl) (Or.inl lk_X13_390) me_X13_draw mv_X13_draw ⟨by decide, by decide⟩ rfl rfl rfl (Nat.le_of_ble_eq_true rfl) (P_X13_draw X a0 100 h6) (fun v21 h22 => ?_)
        show jv_O X M_X13_happens _ jeI 125 [some (.ref (a0)), some (.int (v3)), some (.int (v5)), some (.int (0)), some (.int (0)), some (.int (0)), some (.int (0)), none] [.int (v21)] h22 _
        refine jv_istore_n (L' := [some (.ref (a0)), some (.int (v3)), some (.int (v5)), some (.int (v21)), some (.int (0)), some (.int (0)), some (.int (0)), none]) (jv_dk t_X13_happens (k := 69) rfl) rfl (Nat.le_of_ble_eq_true rfl) rfl ?_
        refine jv_goto (tgt := 166) (jv_dk t_X13_happens (k := 70) rfl) rfl ?_
        exact o_f_X13_happens_b166 _ _ _ _ _ _ _ _ 
    · show jv_O _ _ _ _ 78 _ _ _ _
      refine jv_aload_n (jv_dk t_X13_happens (k := 44) rfl) rfl rfl (Or.inr ⟨_, rfl⟩) ?_
      refine jv_bipush (v := 8) (jv_dk t_X13_happens (k := 45) rfl) (by decide) ?_
      refine jv_callV (en' := jeI) (pv := jpI) (As := [.int (8)]) (S := []) (jv_dk t_X13_happens (k := 46) rfl) (fun _ => rfl) (Or.inl lk_X13_390) me_X13_draw mv_X13_draw ⟨by decide, by decide⟩ rfl rfl rfl (Nat.le_of_ble_eq_true rfl) (P_X13_draw X a0 8 h6) (fun v23 h24 => ?_)
      show jv_O X M_X13_happens _ jeI 84 [some (.ref (a0)), some (.int (v3)), some (.int (v5)), some (.int (0)), some (.int (0)), some (.int (0)), some (.int (0)), none] [.int (v23)] h24 _
      refine jv_istore_n (L' := [some (.ref (a0)), some (.int (v3)), some (.int (v5)), some (.int (v23)), some (.int (0)), some (.int (0)), some (.int (0)), none]) (jv_dk t_X13_happens (k := 47) rfl) rfl (Nat.le_of_ble_eq_true rfl) rfl ?_
      refine jv_aload_n (jv_dk t_X13_happens (k := 48) rfl) rfl rfl (Or.inr ⟨_, rfl⟩) ?_
      refine jv_bipush (v := 100) (jv_dk t_X13_happens (k := 49) rfl) (by decide) ?_
      refine jv_callV (en' := jeI) (pv := jpI) (As := [.int (100)]) (S := []) (jv_dk t_X13_happens (k := 50) rfl) (fun _ => rfl) (Or.inl lk_X13_390) me_X13_draw mv_X13_draw ⟨by decide, by decide⟩ rfl rfl rfl (Nat.le_of_ble_eq_true rfl) (P_X13_draw X a0 100 h24) (fun v25 h26 => ?_)
      show jv_O X M_X13_happens _ jeI 91 [some (.ref (a0)), some (.int (v3)), some (.int (v5)), some (.int (v23)), some (.int (0)), some (.int (0)), some (.int (0)), none] [.int (v25)] h26 _
      refine jv_istore (L' := [some (.ref (a0)), some (.int (v3)), some (.int (v5)), some (.int (v23)), some (.int (v25)), some (.int (0)), some (.int (0)), none]) (jv_dk t_X13_happens (k := 51) rfl) (Nat.le_of_ble_eq_true rfl) rfl ?_
      refine jv_aload_n (jv_dk t_X13_happens (k := 52) rfl) rfl rfl (Or.inr ⟨_, rfl⟩) ?_
      refine jv_bipush (v := 100) (jv_dk t_X13_happens (k := 53) rfl) (by decide) ?_
      refine jv_callV (en' := jeI) (pv := jpI) (As := [.int (100)]) (S := []) (jv_dk t_X13_happens (k := 54) rfl) (fun _ => rfl) (Or.inl lk_X13_390) me_X13_draw mv_X13_draw ⟨by decide, by decide⟩ rfl rfl rfl (Nat.le_of_ble_eq_true rfl) (P_X13_draw X a0 100 h26) (fun v27 h28 => ?_)
      show jv_O X M_X13_happens _ jeI 99 [some (.ref (a0)), some (.int (v3)), some (.int (v5)), some (.int (v23)), some (.int (v25)), some (.int (0)), some (.int (0)), none] [.int (v27)] h28 _
      refine jv_istore (L' := [some (.ref (a0)), some (.int (v3)), some (.int (v5)), some (.int (v23)), some (.int (v25)), some (.int (v27)), some (.int (0)), none]) (jv_dk t_X13_happens (k := 55) rfl) (Nat.le_of_ble_eq_true rfl) rfl ?_
      refine jv_aload_n (jv_dk t_X13_happens (k := 56) rfl) rfl rfl (Or.inr ⟨_, rfl⟩) ?_
      refine jv_bipush (v := 20) (jv_dk t_X13_happens (k := 57) rfl) (by decide) ?_
      refine jv_callV (en' := jeI) (pv := jpI) (As := [.int (20)]) (S := []) (jv_dk t_X13_happens (k := 58) rfl) (fun _ => rfl) (Or.inl lk_X13_390) me_X13_draw mv_X13_draw ⟨by decide, by decide⟩ rfl rfl rfl (Nat.le_of_ble_eq_true rfl) (P_X13_draw X a0 20 h28) (fun v29 h30 => ?_)
      show jv_O X M_X13_happens _ jeI 107 [some (.ref (a0)), some (.int (v3)), some (.int (v5)), some (.int (v23)), some (.int (v25)), some (.int (v27)), some (.int (0)), none] [.int (v29)] h30 _
      refine jv_iconst (v := 1) (jv_dk t_X13_happens (k := 59) rfl) (by decide) ?_
      refine jv_iadd (jv_dk t_X13_happens (k := 60) rfl) ?_
      refine jv_istore (L' := [some (.ref (a0)), some (.int (v3)), some (.int (v5)), some (.int (v23)), some (.int (v25)), some (.int (v27)), some (.int (v29 + 1)), none]) (jv_dk t_X13_happens (k := 61) rfl) (Nat.le_of_ble_eq_true rfl) rfl ?_
      refine jv_goto (tgt := 166) (jv_dk t_X13_happens (k := 62) rfl) rfl ?_
      exact o_f_X13_happens_b166 _ _ _ _ _ _ _ _ 
  · show jv_O _ _ _ _ 34 _ _ _ _
    refine jv_aload_n (jv_dk t_X13_happens (k := 21) rfl) rfl rfl (Or.inr ⟨_, rfl⟩) ?_
    refine jv_bipush (v := 16) (jv_dk t_X13_happens (k := 22) rfl) (by decide) ?_
    refine jv_callV (en' := jeI) (pv := jpI) (As := [.int (16)]) (S := []) (jv_dk t_X13_happens (k := 23) rfl) (fun _ => rfl) (Or.inl lk_X13_390) me_X13_draw mv_X13_draw ⟨by decide, by decide⟩ rfl rfl rfl (Nat.le_of_ble_eq_true rfl) (P_X13_draw X a0 16 h6) (fun v31 h32 => ?_)
    show jv_O X M_X13_happens _ jeI 40 [some (.ref (a0)), some (.int (v3)), some (.int (v5)), some (.int (0)), some (.int (0)), some (.int (0)), some (.int (0)), none] [.int (v31)] h32 _
    refine jv_istore_n (L' := [some (.ref (a0)), some (.int (v3)), some (.int (v5)), some (.int (v31)), some (.int (0)), some (.int (0)), some (.int (0)), none]) (jv_dk t_X13_happens (k := 24) rfl) rfl (Nat.le_of_ble_eq_true rfl) rfl ?_
    refine jv_aload_n (jv_dk t_X13_happens (k := 25) rfl) rfl rfl (Or.inr ⟨_, rfl⟩) ?_
    refine jv_iconst (v := 3) (jv_dk t_X13_happens (k := 26) rfl) (by decide) ?_
    refine jv_callV (en' := jeI) (pv := jpI) (As := [.int (3)]) (S := []) (jv_dk t_X13_happens (k := 27) rfl) (fun _ => rfl) (Or.inl lk_X13_390) me_X13_draw mv_X13_draw ⟨by decide, by decide⟩ rfl rfl rfl (Nat.le_of_ble_eq_true rfl) (P_X13_draw X a0 3 h32) (fun v33 h34 => ?_)
    show jv_O X M_X13_happens _ jeI 46 [some (.ref (a0)), some (.int (v3)), some (.int (v5)), some (.int (v31)), some (.int (0)), some (.int (0)), some (.int (0)), none] [.int (v33)] h34 _
    refine jv_istore (L' := [some (.ref (a0)), some (.int (v3)), some (.int (v5)), some (.int (v31)), some (.int (0)), some (.int (0)), some (.int (0)), some (.int (v33))]) (jv_dk t_X13_happens (k := 28) rfl) (Nat.le_of_ble_eq_true rfl) rfl ?_
    refine jv_iload (jv_dk t_X13_happens (k := 29) rfl) rfl ?_
    refine jv_if_ne (tgt := 57) (jv_dk t_X13_happens (k := 30) rfl) rfl (fun c35 => ?_) (fun c35 => ?_)
    · refine jv_iload (jv_dk t_X13_happens (k := 33) rfl) rfl ?_
      refine jv_iconst (v := 1) (jv_dk t_X13_happens (k := 34) rfl) (by decide) ?_
      refine jv_icmp_ne (tgt := 67) (jv_dk t_X13_happens (k := 35) rfl) rfl (fun c36 => ?_) (fun c36 => ?_)
      · refine jv_iconst (v := 2) (jv_dk t_X13_happens (k := 38) rfl) (by decide) ?_
        refine jv_istore (L' := [some (.ref (a0)), some (.int (v3)), some (.int (v5)), some (.int (v31)), some (.int (2)), some (.int (0)), some (.int (0)), some (.int (v33))]) (jv_dk t_X13_happens (k := 39) rfl) (Nat.le_of_ble_eq_true rfl) rfl ?_
        refine jv_goto (tgt := 166) (jv_dk t_X13_happens (k := 40) rfl) rfl ?_
        refine jv_le_row (jv_le_s (jv_le_s (jv_le_s (jv_le_s (jv_le_s (jv_le_s (jv_le_s (jv_le_n (jv_le_nil))))))))) ?_
        exact o_f_X13_happens_b166 _ _ _ _ _ _ _ _ 
      · show jv_O _ _ _ _ 63 _ _ _ _
        refine jv_iconst (v := 0) (jv_dk t_X13_happens (k := 36) rfl) (by decide) ?_
        refine jv_goto (tgt := 68) (jv_dk t_X13_happens (k := 37) rfl) rfl ?_
        refine jv_istore (L' := [some (.ref (a0)), some (.int (v3)), some (.int (v5)), some (.int (v31)), some (.int (0)), some (.int (0)), some (.int (0)), some (.int (v33))]) (jv_dk t_X13_happens (k := 39) rfl) (Nat.le_of_ble_eq_true rfl) rfl ?_
        refine jv_goto (tgt := 166) (jv_dk t_X13_happens (k := 40) rfl) rfl ?_
        refine jv_le_row (jv_le_s (jv_le_s (jv_le_s (jv_le_s (jv_le_s (jv_le_s (jv_le_s (jv_le_n (jv_le_nil))))))))) ?_
        exact o_f_X13_happens_b166 _ _ _ _ _ _ _ _ 
    · show jv_O _ _ _ _ 53 _ _ _ _
      refine jv_iconst (v := 1) (jv_dk t_X13_happens (k := 31) rfl) (by decide) ?_
      refine jv_goto (tgt := 68) (jv_dk t_X13_happens (k := 32) rfl) rfl ?_
      refine jv_istore (L' := [some (.ref (a0)), some (.int (v3)), some (.int (v5)), some (.int (v31)), some (.int (1)), some (.int (0)), some (.int (0)), some (.int (v33))]) (jv_dk t_X13_happens (k := 39) rfl) (Nat.le_of_ble_eq_true rfl) rfl ?_
      refine jv_goto (tgt := 166) (jv_dk t_X13_happens (k := 40) rfl) rfl ?_
      refine jv_le_row (jv_le_s (jv_le_s (jv_le_s (jv_le_s (jv_le_s (jv_le_s (jv_le_s (jv_le_n (jv_le_nil))))))))) ?_
      exact o_f_X13_happens_b166 _ _ _ _ _ _ _ _ 
def t0_X13_deepest : List (Nat × Instr × Nat) := [(0, .iconst 0, 1), (1, .istore_n 1, 1), (2, .iconst 0, 1), (3, .istore_n 2, 1), (4, .iload_n 2, 1), (5, .bipush 16, 2), (7, .if_icmp .ge 34, 3), (10, .aload_n 0, 1), (11, .iload_n 2, 1), (12, .invokevirtual 289, 3), (15, .ifCond .eq 20, 3), (18, .iload_n 1, 1), (19, .aload_n 0, 1), (20, .iconst 0, 1), (21, .aload_n 0, 1), (22, .iload_n 2, 1), (23, .iconst 2, 1), (24, .invokevirtual 205, 3), (27, .iconst 1, 1), (28, .invokevirtual 217, 3), (31, .invokestatic 393, 3), (34, .istore_n 1, 1), (35, .iinc 2 1, 3), (38, .goto (-34), 3), (41, .iload_n 1, 1), (42, .ireturn, 1)]
theorem t_X13_deepest : jv_dec cX13_deepest t0_X13_deepest = true := by decide +kernel
def M_X13_deepest : jm := (yX13_deepest, cX13_deepest, 3, (some .int), 2, 44, [])
theorem mt_X13_393 : Cond.methodLink RX13 393 Lib.Math.max.name ∈ lw_tbl := (jv_at 1903 (by decide +kernel))
def f_X13_deepest_h4 (K4 : Int32 → jh → Option (Int32 × jh)) (R4 : Nat → Int32 → Int32 → jh → Option (Int32 × jh)) (x0 : Nat) (x1 : Int32) (x2 : Int32) (h : jh) : Option (Int32 × jh) :=
  (if 16 ≤ x2 then
  K4 x1 h
  else
  cV h x0 11 (f_X13_isThere x0 x2 h) fun v2 h3 =>
  (if v2 = 0 then
  R4 x0 x1 (x2 + 1) h3
  else
  cV h3 x0 11 (f_X13_of x0 x2 2 h3) fun v5 h6 =>
  cV h6 x0 11 (f_X13_spaceOf x0 0 v5 1 h6) fun v7 h8 =>
  lt1 (if x1 < v7 then v7 else x1) fun v9 =>
  R4 x0 v9 (x2 + 1) h8))
theorem o_f_X13_deepest_h4 {X : jx} {b0 : Nat × Nat} {K4 : Int32 → jh → Option (Int32 × jh)} (hK4 : ∀ (x1 : Int32) (h : jh), jv_O X M_X13_deepest b0 jeI 41 [none, some (.int (x1)), none] [] h (K4 x1 h)) : ∀ (x0 : Nat) (x1 : Int32) (x2 : Int32) (h : jh), jv_O X M_X13_deepest b0 jeI 4 [some (.ref (x0)), some (.int (x1)), some (.int (x2))] [] h (jlp3 (f_X13_deepest_h4 K4) jfu x0 x1 x2 h) := by
  refine jlp3_ok (P := fun x0 x1 x2 h o => jv_O X M_X13_deepest b0 jeI 4 [some (.ref (x0)), some (.int (x1)), some (.int (x2))] [] h o) (fun R4 hR4 => ?_) (fun _ _ _ _  => jv_none rfl) jfu
  intro x0 x1 x2 h
  unfold f_X13_deepest_h4
  refine jv_iload_n (jv_dk t_X13_deepest (k := 4) rfl) rfl rfl ?_
  refine jv_bipush (v := 16) (jv_dk t_X13_deepest (k := 5) rfl) (by decide) ?_
  refine jv_icmp_ge (tgt := 41) (jv_dk t_X13_deepest (k := 6) rfl) rfl (fun c1 => ?_) (fun c1 => ?_)
  · refine jv_le_row (jv_le_n (jv_le_s (jv_le_n (jv_le_nil)))) ?_
    exact hK4 _ _ 
  · show jv_O _ _ _ _ 10 _ _ _ _
    refine jv_aload_n (jv_dk t_X13_deepest (k := 7) rfl) rfl rfl (Or.inr ⟨_, rfl⟩) ?_
    refine jv_iload_n (jv_dk t_X13_deepest (k := 8) rfl) rfl rfl ?_
    refine jv_callV (en' := jeI) (pv := jpI) (As := [.int (x2)]) (S := []) (jv_dk t_X13_deepest (k := 9) rfl) (fun _ => rfl) (Or.inl lk_X13_289) me_X13_isThere mv_X13_isThere ⟨by decide, by decide⟩ rfl rfl rfl (Nat.le_of_ble_eq_true rfl) (P_X13_isThere X x0 x2 h) (fun v2 h3 => ?_)
    show jv_O X M_X13_deepest _ jeI 15 [some (.ref (x0)), some (.int (x1)), some (.int (x2))] [.int (v2)] h3 _
    refine jv_if_eq (tgt := 35) (jv_dk t_X13_deepest (k := 10) rfl) rfl (fun c4 => ?_) (fun c4 => ?_)
    · refine jv_iinc (v := 1) (L' := [some (.ref (x0)), some (.int (x1)), some (.int (x2 + 1))]) (jv_dk t_X13_deepest (k := 22) rfl) rfl (by decide) rfl ?_
      refine jv_goto (tgt := 4) (jv_dk t_X13_deepest (k := 23) rfl) rfl ?_
      exact hR4 _ _ _ _ 
    · show jv_O _ _ _ _ 18 _ _ _ _
      refine jv_iload_n (jv_dk t_X13_deepest (k := 11) rfl) rfl rfl ?_
      refine jv_aload_n (jv_dk t_X13_deepest (k := 12) rfl) rfl rfl (Or.inr ⟨_, rfl⟩) ?_
      refine jv_iconst (v := 0) (jv_dk t_X13_deepest (k := 13) rfl) (by decide) ?_
      refine jv_aload_n (jv_dk t_X13_deepest (k := 14) rfl) rfl rfl (Or.inr ⟨_, rfl⟩) ?_
      refine jv_iload_n (jv_dk t_X13_deepest (k := 15) rfl) rfl rfl ?_
      refine jv_iconst (v := 2) (jv_dk t_X13_deepest (k := 16) rfl) (by decide) ?_
      refine jv_callV (en' := jeI) (pv := jpI) (As := [.int (x2), .int (2)]) (S := [.int (0), .ref (x0), .int (x1)]) (jv_dk t_X13_deepest (k := 17) rfl) (fun _ => rfl) (Or.inl lk_X13_205) me_X13_of mv_X13_of ⟨by decide, by decide⟩ rfl rfl rfl (Nat.le_of_ble_eq_true rfl) (P_X13_of X x0 x2 2 h3) (fun v5 h6 => ?_)
      show jv_O X M_X13_deepest _ jeI 27 [some (.ref (x0)), some (.int (x1)), some (.int (x2))] [.int (v5), .int (0), .ref (x0), .int (x1)] h6 _
      refine jv_iconst (v := 1) (jv_dk t_X13_deepest (k := 18) rfl) (by decide) ?_
      refine jv_callV (en' := jeI) (pv := jpI) (As := [.int (0), .int (v5), .int (1)]) (S := [.int (x1)]) (jv_dk t_X13_deepest (k := 19) rfl) (fun _ => rfl) (Or.inl lk_X13_217) me_X13_spaceOf mv_X13_spaceOf ⟨by decide, by decide⟩ rfl rfl rfl (Nat.le_of_ble_eq_true rfl) (P_X13_spaceOf X x0 0 v5 1 h6) (fun v7 h8 => ?_)
      show jv_O X M_X13_deepest _ jeI 31 [some (.ref (x0)), some (.int (x1)), some (.int (x2))] [.int (v7), .int (x1)] h8 _
      refine jv_lt1 (fun v9 e_v9 => ?_)
      refine jv_mmax (jv_dk t_X13_deepest (k := 20) rfl) mt_X13_393 (Nat.le_of_ble_eq_true rfl) ⟨by decide, by decide⟩ ?_
      rw [← e_v9]
      refine jv_istore_n (L' := [some (.ref (x0)), some (.int (v9)), some (.int (x2))]) (jv_dk t_X13_deepest (k := 21) rfl) rfl (Nat.le_of_ble_eq_true rfl) rfl ?_
      refine jv_iinc (v := 1) (L' := [some (.ref (x0)), some (.int (v9)), some (.int (x2 + 1))]) (jv_dk t_X13_deepest (k := 22) rfl) rfl (by decide) rfl ?_
      refine jv_goto (tgt := 4) (jv_dk t_X13_deepest (k := 23) rfl) rfl ?_
      exact hR4 _ _ _ _ 
def f_X13_deepest (a0 : Nat) (h : jh) : Option (Int32 × jh) :=
  jlp3 (f_X13_deepest_h4 (fun y11 h10 =>
  some (y11, h10))) jfu a0 0 0 h
theorem P_X13_deepest (X : jx) (a0 : Nat) (h : jh) : jv_P X M_X13_deepest jeI [.ref (a0)] h (f_X13_deepest a0 h) := by
  refine jv_P.of (by decide) rfl (by simp [Value.category]) (Nat.le_of_ble_eq_true rfl) ?_
  show jv_O X M_X13_deepest (h.1, h.2.1) jeI 0 [some (.ref (a0)), none, none] [] h (f_X13_deepest a0 h)
  unfold f_X13_deepest
  refine jv_iconst (v := 0) (jv_dk t_X13_deepest (k := 0) rfl) (by decide) ?_
  refine jv_istore_n (L' := [some (.ref (a0)), some (.int (0)), none]) (jv_dk t_X13_deepest (k := 1) rfl) rfl (Nat.le_of_ble_eq_true rfl) rfl ?_
  refine jv_iconst (v := 0) (jv_dk t_X13_deepest (k := 2) rfl) (by decide) ?_
  refine jv_istore_n (L' := [some (.ref (a0)), some (.int (0)), some (.int (0))]) (jv_dk t_X13_deepest (k := 3) rfl) rfl (Nat.le_of_ble_eq_true rfl) rfl ?_
  refine o_f_X13_deepest_h4 (fun y11 h10 => ?_) _ _ _ _ 
  show jv_O X M_X13_deepest _ jeI 41 [none, some (.int (y11)), none] [] h10 _
  refine jv_iload_n (jv_dk t_X13_deepest (k := 24) rfl) rfl rfl ?_
  exact jv_iret (ty := .int) (jv_dk t_X13_deepest (k := 25) rfl) rfl rfl rfl
def t0_X13_years : List (Nat × Instr × Nat) := [(0, .aload_n 0, 1), (1, .iconst 0, 1), (2, .putfield 96, 3), (5, .iload_n 3, 1), (6, .iconst 0, 1), (7, .iconst 2, 1), (8, .invokestatic 169, 3), (11, .ifCond .ne 9, 3), (14, .aload_n 0, 1), (15, .iconst 1, 1), (16, .invokevirtual 185, 3), (19, .ireturn, 1), (20, .iload_n 2, 1), (21, .iconst 0, 1), (22, .bipush 60, 2), (24, .invokestatic 169, 3), (27, .ifCond .ne 9, 3), (30, .aload_n 0, 1), (31, .iconst 2, 1), (32, .invokevirtual 185, 3), (35, .ireturn, 1), (36, .aload_n 0, 1), (37, .getfield 60, 3), (40, .aload_n 0, 1), (41, .getfield 37, 3), (44, .invokestatic 323, 3), (47, .aload_n 0, 1), (48, .iload_n 1, 1), (49, .putfield 386, 3), (52, .iconst 0, 1), (53, .istore 4, 2), (55, .iconst 0, 1), (56, .istore 5, 2), (58, .iload 5, 2), (60, .iload_n 2, 1), (61, .if_icmp .ge 26, 3), (64, .iload 4, 2), (66, .aload_n 0, 1), (67, .invokevirtual 396, 3), (70, .ifCond .eq 7, 3), (73, .iconst 1, 1), (74, .goto 4, 3), (77, .iconst 0, 1), (78, .iadd, 1), (79, .istore 4, 2), (81, .iinc 5 1, 3), (84, .goto (-26), 3), (87, .iload_n 3, 1), (88, .ifCond .ne 13, 3), (91, .aload_n 0, 1), (92, .invokevirtual 336, 3), (95, .invokestatic 339, 3), (98, .goto 17, 3), (101, .iload_n 3, 1), (102, .iconst 1, 1), (103, .if_icmp .ne 8, 3), (106, .iload 4, 2), (108, .goto 7, 3), (111, .aload_n 0, 1), (112, .invokevirtual 400, 3), (115, .istore 5, 2), (117, .aload_n 0, 1), (118, .getfield 37, 3), (121, .aload_n 0, 1), (122, .getfield 60, 3), (125, .invokestatic 323, 3), (128, .iload 5, 2), (130, .ireturn, 1)]
theorem t_X13_years : jv_dec cX13_years t0_X13_years = true := by decide +kernel
def M_X13_years : jm := (yX13_years, cX13_years, 6, (some .int), 8, 201, [])
theorem lk_X13_396 : Cond.methodLink RX13 396 M_X13_happens.1 ∈ lw_tbl := (jv_at 1890 (by decide +kernel))
set_option maxRecDepth 20000 in
theorem me_X13_happens : jv_me M_X13_happens 0 := ⟨(jv_in8 (List.mem_of_getElem? (i := 53) rfl)), (jv_at 172 (by decide +kernel)), ⟨by decide, by decide⟩, by decide +kernel⟩
theorem mv_X13_happens : jv_mv M_X13_happens := ⟨(jv_at 1892 (by decide +kernel)), (jv_at 157 (by decide +kernel))⟩
theorem lk_X13_400 : Cond.methodLink RX13 400 M_X13_deepest.1 ∈ lw_tbl := (jv_at 1899 (by decide +kernel))
set_option maxRecDepth 20000 in
theorem me_X13_deepest : jv_me M_X13_deepest 0 := ⟨(jv_in8 (List.mem_of_getElem? (i := 62) rfl)), (jv_at 172 (by decide +kernel)), ⟨by decide, by decide⟩, by decide +kernel⟩
theorem mv_X13_deepest : jv_mv M_X13_deepest := ⟨(jv_at 1901 (by decide +kernel)), (jv_at 159 (by decide +kernel))⟩
def f_X13_years_h58 (K58 : Nat → Int32 → Int32 → jh → Option (Int32 × jh)) (R58 : Nat → Int32 → Int32 → Int32 → Int32 → jh → Option (Int32 × jh)) (x0 : Nat) (x2 : Int32) (x3 : Int32) (x4 : Int32) (x5 : Int32) (h : jh) : Option (Int32 × jh) :=
  (if x2 ≤ x5 then
  K58 x0 x3 x4 h
  else
  cV h x0 11 (f_X13_happens x0 h) fun v13 h14 =>
  (if v13 = 0 then
  R58 x0 x2 x3 (x4 + 0) (x5 + 1) h14
  else
  R58 x0 x2 x3 (x4 + 1) (x5 + 1) h14))
theorem o_f_X13_years_h58 {X : jx} {b0 : Nat × Nat} {K58 : Nat → Int32 → Int32 → jh → Option (Int32 × jh)} (hK58 : ∀ (x0 : Nat) (x3 : Int32) (x4 : Int32) (h : jh), jv_O X M_X13_years b0 jeI 87 [some (.ref (x0)), none, none, some (.int (x3)), some (.int (x4)), none] [] h (K58 x0 x3 x4 h)) : ∀ (x0 : Nat) (x2 : Int32) (x3 : Int32) (x4 : Int32) (x5 : Int32) (h : jh), jv_O X M_X13_years b0 jeI 58 [some (.ref (x0)), none, some (.int (x2)), some (.int (x3)), some (.int (x4)), some (.int (x5))] [] h (jlp5 (f_X13_years_h58 K58) jfu x0 x2 x3 x4 x5 h) := by
  refine jlp5_ok (P := fun x0 x2 x3 x4 x5 h o => jv_O X M_X13_years b0 jeI 58 [some (.ref (x0)), none, some (.int (x2)), some (.int (x3)), some (.int (x4)), some (.int (x5))] [] h o) (fun R58 hR58 => ?_) (fun _ _ _ _ _ _  => jv_none rfl) jfu
  intro x0 x2 x3 x4 x5 h
  unfold f_X13_years_h58
  refine jv_iload (jv_dk t_X13_years (k := 33) rfl) rfl ?_
  refine jv_iload_n (jv_dk t_X13_years (k := 34) rfl) rfl rfl ?_
  refine jv_icmp_ge (tgt := 87) (jv_dk t_X13_years (k := 35) rfl) rfl (fun c12 => ?_) (fun c12 => ?_)
  · refine jv_le_row (jv_le_s (jv_le_n (jv_le_n (jv_le_s (jv_le_s (jv_le_n (jv_le_nil))))))) ?_
    exact hK58 _ _ _ _ 
  · show jv_O _ _ _ _ 64 _ _ _ _
    refine jv_iload (jv_dk t_X13_years (k := 36) rfl) rfl ?_
    refine jv_aload_n (jv_dk t_X13_years (k := 37) rfl) rfl rfl (Or.inr ⟨_, rfl⟩) ?_
    refine jv_callV (en' := jeI) (pv := jpI) (As := []) (S := [.int (x4)]) (jv_dk t_X13_years (k := 38) rfl) (fun _ => rfl) (Or.inl lk_X13_396) me_X13_happens mv_X13_happens ⟨by decide, by decide⟩ rfl rfl rfl (Nat.le_of_ble_eq_true rfl) (P_X13_happens X x0 h) (fun v13 h14 => ?_)
    show jv_O X M_X13_years _ jeI 70 [some (.ref (x0)), none, some (.int (x2)), some (.int (x3)), some (.int (x4)), some (.int (x5))] [.int (v13), .int (x4)] h14 _
    refine jv_if_eq (tgt := 77) (jv_dk t_X13_years (k := 39) rfl) rfl (fun c15 => ?_) (fun c15 => ?_)
    · refine jv_iconst (v := 0) (jv_dk t_X13_years (k := 42) rfl) (by decide) ?_
      refine jv_iadd (jv_dk t_X13_years (k := 43) rfl) ?_
      refine jv_istore (L' := [some (.ref (x0)), none, some (.int (x2)), some (.int (x3)), some (.int (x4 + 0)), some (.int (x5))]) (jv_dk t_X13_years (k := 44) rfl) (Nat.le_of_ble_eq_true rfl) rfl ?_
      refine jv_iinc (v := 1) (L' := [some (.ref (x0)), none, some (.int (x2)), some (.int (x3)), some (.int (x4 + 0)), some (.int (x5 + 1))]) (jv_dk t_X13_years (k := 45) rfl) rfl (by decide) rfl ?_
      refine jv_goto (tgt := 58) (jv_dk t_X13_years (k := 46) rfl) rfl ?_
      exact hR58 _ _ _ _ _ _ 
    · show jv_O _ _ _ _ 73 _ _ _ _
      refine jv_iconst (v := 1) (jv_dk t_X13_years (k := 40) rfl) (by decide) ?_
      refine jv_goto (tgt := 78) (jv_dk t_X13_years (k := 41) rfl) rfl ?_
      refine jv_iadd (jv_dk t_X13_years (k := 43) rfl) ?_
      refine jv_istore (L' := [some (.ref (x0)), none, some (.int (x2)), some (.int (x3)), some (.int (x4 + 1)), some (.int (x5))]) (jv_dk t_X13_years (k := 44) rfl) (Nat.le_of_ble_eq_true rfl) rfl ?_
      refine jv_iinc (v := 1) (L' := [some (.ref (x0)), none, some (.int (x2)), some (.int (x3)), some (.int (x4 + 1)), some (.int (x5 + 1))]) (jv_dk t_X13_years (k := 45) rfl) rfl (by decide) rfl ?_
      refine jv_goto (tgt := 58) (jv_dk t_X13_years (k := 46) rfl) rfl ?_
      exact hR58 _ _ _ _ _ _ 
def f_X13_years_b115 (x0 : Nat) (s0 : Int32) (h : jh) : Option (Int32 × jh) :=
  gR h x0 11 2 fun v24 =>
  gR h x0 11 20 fun v25 =>
  bd (f_X13_copyTo v24 v25 h) fun _ h26 =>
  some (s0, h26)
theorem o_f_X13_years_b115 {X : jx} {b0 : Nat × Nat} (x0 : Nat) (s0 : Int32) (h : jh) : jv_O X M_X13_years b0 jeI 115 [some (.ref (x0)), none, none, none, none, none] [.int (s0)] h (f_X13_years_b115 x0 s0 h) := by
  unfold f_X13_years_b115
  refine jv_istore (L' := [some (.ref (x0)), none, none, none, none, some (.int (s0))]) (jv_dk t_X13_years (k := 60) rfl) (Nat.le_of_ble_eq_true rfl) rfl ?_
  refine jv_aload_n (jv_dk t_X13_years (k := 61) rfl) rfl rfl (Or.inr ⟨_, rfl⟩) ?_
  refine jv_gR (jv_dk t_X13_years (k := 62) rfl) fl_X13_37 (fun v24 => ?_)
  refine jv_aload_n (jv_dk t_X13_years (k := 63) rfl) rfl rfl (Or.inr ⟨_, rfl⟩) ?_
  refine jv_gR (jv_dk t_X13_years (k := 64) rfl) fl_X13_60 (fun v25 => ?_)
  refine jv_callS (en' := jeV) (pv := jpV) (As := [.ref (v24), .ref (v25)]) (S := []) (jv_dk t_X13_years (k := 65) rfl) (fun _ => rfl) (Or.inl lk_X13_323) me_X13_copyTo ms_X13_copyTo ⟨by decide, by decide⟩ rfl rfl (Nat.le_of_ble_eq_true rfl) (P_X13_copyTo X v24 v25 h) (fun _ h26 => ?_)
  show jv_O X M_X13_years _ jeI 128 [some (.ref (x0)), none, none, none, none, some (.int (s0))] [] h26 _
  refine jv_iload (jv_dk t_X13_years (k := 66) rfl) rfl ?_
  exact jv_iret (ty := .int) (jv_dk t_X13_years (k := 67) rfl) rfl rfl rfl
def f_X13_years (a0 : Nat) (a1 : Int32) (a2 : Int32) (a3 : Int32) (h : jh) : Option (Int32 × jh) :=
  pV h a0 11 1 (.int (0)) fun h1 =>
  bd (f_X13_isIn a3 0 2 h1) fun v2 h3 =>
  (if ¬ v2 = 0 then
  bd (f_X13_isIn a2 0 60 h3) fun v5 h6 =>
  (if ¬ v5 = 0 then
  gR h6 a0 11 20 fun v8 =>
  gR h6 a0 11 2 fun v9 =>
  bd (f_X13_copyTo v8 v9 h6) fun _ h10 =>
  pV h10 a0 11 26 (.int (a1)) fun h11 =>
  jlp5 (f_X13_years_h58 (fun y17 y18 y19 h16 =>
  (if ¬ y18 = 0 then
  (if ¬ y18 = 1 then
  cV h16 y17 11 (f_X13_deepest y17 h16) fun v22 h23 =>
  f_X13_years_b115 y17 v22 h23
  else
  f_X13_years_b115 y17 y19 h16)
  else
  cV h16 y17 11 (f_X13_thereBits y17 h16) fun v27 h28 =>
  bd (f_J6_bitCount_0f7a4 v27 h28) fun v29 h30 =>
  f_X13_years_b115 y17 v29 h30))) jfu a0 a2 a3 0 0 h11
  else
  cV h6 a0 11 (f_X13_fail a0 2 h6) fun v31 h32 =>
  some (v31, h32))
  else
  cV h3 a0 11 (f_X13_fail a0 1 h3) fun v33 h34 =>
  some (v33, h34))
theorem P_X13_years (X : jx) (a0 : Nat) (a1 : Int32) (a2 : Int32) (a3 : Int32) (h : jh) : jv_P X M_X13_years jeI [.ref (a0), .int (a1), .int (a2), .int (a3)] h (f_X13_years a0 a1 a2 a3 h) := by
  refine jv_P.of (by decide) rfl (by simp [Value.category]) (Nat.le_of_ble_eq_true rfl) ?_
  show jv_O X M_X13_years (h.1, h.2.1) jeI 0 [some (.ref (a0)), some (.int (a1)), some (.int (a2)), some (.int (a3)), none, none] [] h (f_X13_years a0 a1 a2 a3 h)
  unfold f_X13_years
  refine jv_aload_n (jv_dk t_X13_years (k := 0) rfl) rfl rfl (Or.inr ⟨_, rfl⟩) ?_
  refine jv_iconst (v := 0) (jv_dk t_X13_years (k := 1) rfl) (by decide) ?_
  refine jv_pV (jv_dk t_X13_years (k := 2) rfl) fl_X13_96 kX13 (Or.inl rfl) rfl rfl rfl (fun h1 => ?_)
  refine jv_iload_n (jv_dk t_X13_years (k := 3) rfl) rfl rfl ?_
  refine jv_iconst (v := 0) (jv_dk t_X13_years (k := 4) rfl) (by decide) ?_
  refine jv_iconst (v := 2) (jv_dk t_X13_years (k := 5) rfl) (by decide) ?_
  refine jv_callS (en' := jeI) (pv := jpI) (As := [.int (a3), .int (0), .int (2)]) (S := []) (jv_dk t_X13_years (k := 6) rfl) (fun _ => rfl) (Or.inl lk_X13_169) me_X13_isIn ms_X13_isIn ⟨by decide, by decide⟩ rfl rfl (Nat.le_of_ble_eq_true rfl) (P_X13_isIn X a3 0 2 h1) (fun v2 h3 => ?_)
  show jv_O X M_X13_years _ jeI 11 [some (.ref (a0)), some (.int (a1)), some (.int (a2)), some (.int (a3)), none, none] [.int (v2)] h3 _
  refine jv_if_ne (tgt := 20) (jv_dk t_X13_years (k := 7) rfl) rfl (fun c4 => ?_) (fun c4 => ?_)
  · refine jv_iload_n (jv_dk t_X13_years (k := 12) rfl) rfl rfl ?_
    refine jv_iconst (v := 0) (jv_dk t_X13_years (k := 13) rfl) (by decide) ?_
    refine jv_bipush (v := 60) (jv_dk t_X13_years (k := 14) rfl) (by decide) ?_
    refine jv_callS (en' := jeI) (pv := jpI) (As := [.int (a2), .int (0), .int (60)]) (S := []) (jv_dk t_X13_years (k := 15) rfl) (fun _ => rfl) (Or.inl lk_X13_169) me_X13_isIn ms_X13_isIn ⟨by decide, by decide⟩ rfl rfl (Nat.le_of_ble_eq_true rfl) (P_X13_isIn X a2 0 60 h3) (fun v5 h6 => ?_)
    show jv_O X M_X13_years _ jeI 27 [some (.ref (a0)), some (.int (a1)), some (.int (a2)), some (.int (a3)), none, none] [.int (v5)] h6 _
    refine jv_if_ne (tgt := 36) (jv_dk t_X13_years (k := 16) rfl) rfl (fun c7 => ?_) (fun c7 => ?_)
    · refine jv_aload_n (jv_dk t_X13_years (k := 21) rfl) rfl rfl (Or.inr ⟨_, rfl⟩) ?_
      refine jv_gR (jv_dk t_X13_years (k := 22) rfl) fl_X13_60 (fun v8 => ?_)
      refine jv_aload_n (jv_dk t_X13_years (k := 23) rfl) rfl rfl (Or.inr ⟨_, rfl⟩) ?_
      refine jv_gR (jv_dk t_X13_years (k := 24) rfl) fl_X13_37 (fun v9 => ?_)
      refine jv_callS (en' := jeV) (pv := jpV) (As := [.ref (v8), .ref (v9)]) (S := []) (jv_dk t_X13_years (k := 25) rfl) (fun _ => rfl) (Or.inl lk_X13_323) me_X13_copyTo ms_X13_copyTo ⟨by decide, by decide⟩ rfl rfl (Nat.le_of_ble_eq_true rfl) (P_X13_copyTo X v8 v9 h6) (fun _ h10 => ?_)
      show jv_O X M_X13_years _ jeI 47 [some (.ref (a0)), some (.int (a1)), some (.int (a2)), some (.int (a3)), none, none] [] h10 _
      refine jv_aload_n (jv_dk t_X13_years (k := 26) rfl) rfl rfl (Or.inr ⟨_, rfl⟩) ?_
      refine jv_iload_n (jv_dk t_X13_years (k := 27) rfl) rfl rfl ?_
      refine jv_pV (jv_dk t_X13_years (k := 28) rfl) fl_X13_386 kX13 (Or.inl rfl) rfl rfl rfl (fun h11 => ?_)
      refine jv_iconst (v := 0) (jv_dk t_X13_years (k := 29) rfl) (by decide) ?_
      refine jv_istore (L' := [some (.ref (a0)), some (.int (a1)), some (.int (a2)), some (.int (a3)), some (.int (0)), none]) (jv_dk t_X13_years (k := 30) rfl) (Nat.le_of_ble_eq_true rfl) rfl ?_
      refine jv_iconst (v := 0) (jv_dk t_X13_years (k := 31) rfl) (by decide) ?_
      refine jv_istore (L' := [some (.ref (a0)), some (.int (a1)), some (.int (a2)), some (.int (a3)), some (.int (0)), some (.int (0))]) (jv_dk t_X13_years (k := 32) rfl) (Nat.le_of_ble_eq_true rfl) rfl ?_
      refine jv_le_row (jv_le_s (jv_le_n (jv_le_s (jv_le_s (jv_le_s (jv_le_s (jv_le_nil))))))) ?_
      refine o_f_X13_years_h58 (fun y17 y18 y19 h16 => ?_) _ _ _ _ _ _ 
      show jv_O X M_X13_years _ jeI 87 [some (.ref (y17)), none, none, some (.int (y18)), some (.int (y19)), none] [] h16 _
      refine jv_iload_n (jv_dk t_X13_years (k := 47) rfl) rfl rfl ?_
      refine jv_if_ne (tgt := 101) (jv_dk t_X13_years (k := 48) rfl) rfl (fun c20 => ?_) (fun c20 => ?_)
      · refine jv_iload_n (jv_dk t_X13_years (k := 53) rfl) rfl rfl ?_
        refine jv_iconst (v := 1) (jv_dk t_X13_years (k := 54) rfl) (by decide) ?_
        refine jv_icmp_ne (tgt := 111) (jv_dk t_X13_years (k := 55) rfl) rfl (fun c21 => ?_) (fun c21 => ?_)
        · refine jv_aload_n (jv_dk t_X13_years (k := 58) rfl) rfl rfl (Or.inr ⟨_, rfl⟩) ?_
          refine jv_callV (en' := jeI) (pv := jpI) (As := []) (S := []) (jv_dk t_X13_years (k := 59) rfl) (fun _ => rfl) (Or.inl lk_X13_400) me_X13_deepest mv_X13_deepest ⟨by decide, by decide⟩ rfl rfl rfl (Nat.le_of_ble_eq_true rfl) (P_X13_deepest X y17 h16) (fun v22 h23 => ?_)
          show jv_O X M_X13_years _ jeI 115 [some (.ref (y17)), none, none, some (.int (y18)), some (.int (y19)), none] [.int (v22)] h23 _
          refine jv_le_row (jv_le_s (jv_le_n (jv_le_n (jv_le_n (jv_le_n (jv_le_n (jv_le_nil))))))) ?_
          exact o_f_X13_years_b115 _ _ _ 
        · show jv_O _ _ _ _ 106 _ _ _ _
          refine jv_iload (jv_dk t_X13_years (k := 56) rfl) rfl ?_
          refine jv_goto (tgt := 115) (jv_dk t_X13_years (k := 57) rfl) rfl ?_
          refine jv_le_row (jv_le_s (jv_le_n (jv_le_n (jv_le_n (jv_le_n (jv_le_n (jv_le_nil))))))) ?_
          exact o_f_X13_years_b115 _ _ _ 
      · show jv_O _ _ _ _ 91 _ _ _ _
        refine jv_aload_n (jv_dk t_X13_years (k := 49) rfl) rfl rfl (Or.inr ⟨_, rfl⟩) ?_
        refine jv_callV (en' := jeI) (pv := jpI) (As := []) (S := []) (jv_dk t_X13_years (k := 50) rfl) (fun _ => rfl) (Or.inl lk_X13_336) me_X13_thereBits mv_X13_thereBits ⟨by decide, by decide⟩ rfl rfl rfl (Nat.le_of_ble_eq_true rfl) (P_X13_thereBits X y17 h16) (fun v27 h28 => ?_)
        show jv_O X M_X13_years _ jeI 95 [some (.ref (y17)), none, none, some (.int (y18)), some (.int (y19)), none] [.int (v27)] h28 _
        refine jv_callS (en' := jeI) (pv := jpI) (As := [.int (v27)]) (S := []) (jv_dk t_X13_years (k := 51) rfl) (fun _ => rfl) (Or.inl lk_X13_339) me_J6_bitCount_0f7a4 ms_J6_bitCount_0f7a4 ⟨by decide, by decide⟩ rfl rfl (Nat.le_of_ble_eq_true rfl) (P_J6_bitCount_0f7a4 X v27 h28) (fun v29 h30 => ?_)
        show jv_O X M_X13_years _ jeI 98 [some (.ref (y17)), none, none, some (.int (y18)), some (.int (y19)), none] [.int (v29)] h30 _
        refine jv_goto (tgt := 115) (jv_dk t_X13_years (k := 52) rfl) rfl ?_
        refine jv_le_row (jv_le_s (jv_le_n (jv_le_n (jv_le_n (jv_le_n (jv_le_n (jv_le_nil))))))) ?_
        exact o_f_X13_years_b115 _ _ _ 
    · show jv_O _ _ _ _ 30 _ _ _ _
      refine jv_aload_n (jv_dk t_X13_years (k := 17) rfl) rfl rfl (Or.inr ⟨_, rfl⟩) ?_
      refine jv_iconst (v := 2) (jv_dk t_X13_years (k := 18) rfl) (by decide) ?_
      refine jv_callV (en' := jeI) (pv := jpI) (As := [.int (2)]) (S := []) (jv_dk t_X13_years (k := 19) rfl) (fun _ => rfl) (Or.inl lk_X13_185) me_X13_fail mv_X13_fail ⟨by decide, by decide⟩ rfl rfl rfl (Nat.le_of_ble_eq_true rfl) (P_X13_fail X a0 2 h6) (fun v31 h32 => ?_)
      show jv_O X M_X13_years _ jeI 35 [some (.ref (a0)), some (.int (a1)), some (.int (a2)), some (.int (a3)), none, none] [.int (v31)] h32 _
      exact jv_iret (ty := .int) (jv_dk t_X13_years (k := 20) rfl) rfl rfl rfl
  · show jv_O _ _ _ _ 14 _ _ _ _
    refine jv_aload_n (jv_dk t_X13_years (k := 8) rfl) rfl rfl (Or.inr ⟨_, rfl⟩) ?_
    refine jv_iconst (v := 1) (jv_dk t_X13_years (k := 9) rfl) (by decide) ?_
    refine jv_callV (en' := jeI) (pv := jpI) (As := [.int (1)]) (S := []) (jv_dk t_X13_years (k := 10) rfl) (fun _ => rfl) (Or.inl lk_X13_185) me_X13_fail mv_X13_fail ⟨by decide, by decide⟩ rfl rfl rfl (Nat.le_of_ble_eq_true rfl) (P_X13_fail X a0 1 h3) (fun v33 h34 => ?_)
    show jv_O X M_X13_years _ jeI 19 [some (.ref (a0)), some (.int (a1)), some (.int (a2)), some (.int (a3)), none, none] [.int (v33)] h34 _
    exact jv_iret (ty := .int) (jv_dk t_X13_years (k := 11) rfl) rfl rfl rfl
