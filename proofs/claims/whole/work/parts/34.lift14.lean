def t0_X13_map : List (Nat × Instr × Nat) := [(0, .aload_n 0, 1), (1, .iconst 0, 1), (2, .putfield 96, 3), (5, .iload_n 3, 1), (6, .iconst 0, 1), (7, .bipush 99, 2), (9, .invokestatic 169, 3), (12, .ifCond .eq 29, 3), (15, .iload 4, 2), (17, .iconst 0, 1), (18, .bipush 99, 2), (20, .invokestatic 169, 3), (23, .ifCond .eq 18, 3), (26, .iload 5, 2), (28, .iconst 0, 1), (29, .bipush 99, 2), (31, .invokestatic 169, 3), (34, .ifCond .eq 7, 3), (37, .iconst 1, 1), (38, .goto 4, 3), (41, .iconst 0, 1), (42, .istore 6, 2), (44, .iload 6, 2), (46, .ifCond .eq 18, 3), (49, .aload_n 0, 1), (50, .iconst 4, 1), (51, .iload_n 1, 1), (52, .iload_n 2, 1), (53, .iload_n 3, 1), (54, .iload 4, 2), (56, .iload 5, 2), (58, .invokevirtual 330, 3), (61, .goto 8, 3), (64, .aload_n 0, 1), (65, .iconst 1, 1), (66, .invokevirtual 327, 3), (69, .ireturn, 1)]
theorem t_X13_map : jv_dec cX13_map t0_X13_map = true := by decide +kernel
def M_X13_map : jm := (yX13_map, cX13_map, 7, (some .int), 8, 202, [])
def f_X13_map_b42 (x0 : Nat) (x1 : Int32) (x2 : Int32) (x3 : Int32) (x4 : Int32) (x5 : Int32) (s0 : Int32) (h : jh) : Option (Int32 × jh) :=
  (if s0 = 0 then
  cV h x0 11 (f_X13_refuse x0 1 h) fun v6 h7 =>
  some (v6, h7)
  else
  cV h x0 11 (f_X13_act x0 4 x1 x2 x3 x4 x5 h) fun v8 h9 =>
  some (v8, h9))
theorem o_f_X13_map_b42 {X : jx} {b0 : Nat × Nat} (x0 : Nat) (x1 : Int32) (x2 : Int32) (x3 : Int32) (x4 : Int32) (x5 : Int32) (s0 : Int32) (h : jh) : jv_O X M_X13_map b0 jeI 42 [some (.ref (x0)), some (.int (x1)), some (.int (x2)), some (.int (x3)), some (.int (x4)), some (.int (x5)), none] [.int (s0)] h (f_X13_map_b42 x0 x1 x2 x3 x4 x5 s0 h) := by
  unfold f_X13_map_b42
  refine jv_istore (L' := [some (.ref (x0)), some (.int (x1)), some (.int (x2)), some (.int (x3)), some (.int (x4)), some (.int (x5)), some (.int (s0))]) (jv_dk t_X13_map (k := 21) rfl) (Nat.le_of_ble_eq_true rfl) rfl ?_
  refine jv_iload (jv_dk t_X13_map (k := 22) rfl) rfl ?_
  refine jv_if_eq (tgt := 64) (jv_dk t_X13_map (k := 23) rfl) rfl (fun c5 => ?_) (fun c5 => ?_)
  · refine jv_aload_n (jv_dk t_X13_map (k := 33) rfl) rfl rfl (Or.inr ⟨_, rfl⟩) ?_
    refine jv_iconst (v := 1) (jv_dk t_X13_map (k := 34) rfl) (by decide) ?_
    refine jv_callV (en' := jeI) (pv := jpI) (As := [.int (1)]) (S := []) (jv_dk t_X13_map (k := 35) rfl) (fun _ => rfl) (Or.inl lk_X13_327) me_X13_refuse mv_X13_refuse ⟨by decide, by decide⟩ rfl rfl rfl (Nat.le_of_ble_eq_true rfl) (P_X13_refuse X x0 1 h) (fun v6 h7 => ?_)
    show jv_O X M_X13_map _ jeI 69 [some (.ref (x0)), some (.int (x1)), some (.int (x2)), some (.int (x3)), some (.int (x4)), some (.int (x5)), some (.int (s0))] [.int (v6)] h7 _
    exact jv_iret (ty := .int) (jv_dk t_X13_map (k := 36) rfl) rfl rfl rfl
  · show jv_O _ _ _ _ 49 _ _ _ _
    refine jv_aload_n (jv_dk t_X13_map (k := 24) rfl) rfl rfl (Or.inr ⟨_, rfl⟩) ?_
    refine jv_iconst (v := 4) (jv_dk t_X13_map (k := 25) rfl) (by decide) ?_
    refine jv_iload_n (jv_dk t_X13_map (k := 26) rfl) rfl rfl ?_
    refine jv_iload_n (jv_dk t_X13_map (k := 27) rfl) rfl rfl ?_
    refine jv_iload_n (jv_dk t_X13_map (k := 28) rfl) rfl rfl ?_
    refine jv_iload (jv_dk t_X13_map (k := 29) rfl) rfl ?_
    refine jv_iload (jv_dk t_X13_map (k := 30) rfl) rfl ?_
    refine jv_callV (en' := jeI) (pv := jpI) (As := [.int (4), .int (x1), .int (x2), .int (x3), .int (x4), .int (x5)]) (S := []) (jv_dk t_X13_map (k := 31) rfl) (fun _ => rfl) (Or.inl lk_X13_330) me_X13_act mv_X13_act ⟨by decide, by decide⟩ rfl rfl rfl (Nat.le_of_ble_eq_true rfl) (P_X13_act X x0 4 x1 x2 x3 x4 x5 h) (fun v8 h9 => ?_)
    show jv_O X M_X13_map _ jeI 61 [some (.ref (x0)), some (.int (x1)), some (.int (x2)), some (.int (x3)), some (.int (x4)), some (.int (x5)), some (.int (s0))] [.int (v8)] h9 _
    refine jv_goto (tgt := 69) (jv_dk t_X13_map (k := 32) rfl) rfl ?_
    exact jv_iret (ty := .int) (jv_dk t_X13_map (k := 36) rfl) rfl rfl rfl
def f_X13_map (a0 : Nat) (a1 : Int32) (a2 : Int32) (a3 : Int32) (a4 : Int32) (a5 : Int32) (h : jh) : Option (Int32 × jh) :=
  pV h a0 11 1 (.int (0)) fun h1 =>
  bd (f_X13_isIn a3 0 99 h1) fun v2 h3 =>
  (if v2 = 0 then
  f_X13_map_b42 a0 a1 a2 a3 a4 a5 0 h3
  else
  bd (f_X13_isIn a4 0 99 h3) fun v10 h11 =>
  (if v10 = 0 then
  f_X13_map_b42 a0 a1 a2 a3 a4 a5 0 h11
  else
  bd (f_X13_isIn a5 0 99 h11) fun v13 h14 =>
  (if v13 = 0 then
  f_X13_map_b42 a0 a1 a2 a3 a4 a5 0 h14
  else
  f_X13_map_b42 a0 a1 a2 a3 a4 a5 1 h14)))
theorem P_X13_map (X : jx) (a0 : Nat) (a1 : Int32) (a2 : Int32) (a3 : Int32) (a4 : Int32) (a5 : Int32) (h : jh) : jv_P X M_X13_map jeI [.ref (a0), .int (a1), .int (a2), .int (a3), .int (a4), .int (a5)] h (f_X13_map a0 a1 a2 a3 a4 a5 h) := by
  refine jv_P.of (by decide) rfl (by simp [Value.category]) (Nat.le_of_ble_eq_true rfl) ?_
  show jv_O X M_X13_map (h.1, h.2.1) jeI 0 [some (.ref (a0)), some (.int (a1)), some (.int (a2)), some (.int (a3)), some (.int (a4)), some (.int (a5)), none] [] h (f_X13_map a0 a1 a2 a3 a4 a5 h)
  unfold f_X13_map
  refine jv_aload_n (jv_dk t_X13_map (k := 0) rfl) rfl rfl (Or.inr ⟨_, rfl⟩) ?_
  refine jv_iconst (v := 0) (jv_dk t_X13_map (k := 1) rfl) (by decide) ?_
  refine jv_pV (jv_dk t_X13_map (k := 2) rfl) fl_X13_96 kX13 (Or.inl rfl) rfl rfl rfl (fun h1 => ?_)
  refine jv_iload_n (jv_dk t_X13_map (k := 3) rfl) rfl rfl ?_
  refine jv_iconst (v := 0) (jv_dk t_X13_map (k := 4) rfl) (by decide) ?_
  refine jv_bipush (v := 99) (jv_dk t_X13_map (k := 5) rfl) (by decide) ?_
  refine jv_callS (en' := jeI) (pv := jpI) (As := [.int (a3), .int (0), .int (99)]) (S := []) (jv_dk t_X13_map (k := 6) rfl) (fun _ => rfl) (Or.inl lk_X13_169) me_X13_isIn ms_X13_isIn ⟨by decide, by decide⟩ rfl rfl (Nat.le_of_ble_eq_true rfl) (P_X13_isIn X a3 0 99 h1) (fun v2 h3 => ?_)
  show jv_O X M_X13_map _ jeI 12 [some (.ref (a0)), some (.int (a1)), some (.int (a2)), some (.int (a3)), some (.int (a4)), some (.int (a5)), none] [.int (v2)] h3 _
  refine jv_if_eq (tgt := 41) (jv_dk t_X13_map (k := 7) rfl) rfl (fun c4 => ?_) (fun c4 => ?_)
  · refine jv_iconst (v := 0) (jv_dk t_X13_map (k := 20) rfl) (by decide) ?_
    exact o_f_X13_map_b42 _ _ _ _ _ _ _ _ 
  · show jv_O _ _ _ _ 15 _ _ _ _
    refine jv_iload (jv_dk t_X13_map (k := 8) rfl) rfl ?_
    refine jv_iconst (v := 0) (jv_dk t_X13_map (k := 9) rfl) (by decide) ?_
    refine jv_bipush (v := 99) (jv_dk t_X13_map (k := 10) rfl) (by decide) ?_
    refine jv_callS (en' := jeI) (pv := jpI) (As := [.int (a4), .int (0), .int (99)]) (S := []) (jv_dk t_X13_map (k := 11) rfl) (fun _ => rfl) (Or.inl lk_X13_169) me_X13_isIn ms_X13_isIn ⟨by decide, by decide⟩ rfl rfl (Nat.le_of_ble_eq_true rfl) (P_X13_isIn X a4 0 99 h3) (fun v10 h11 => ?_)
    show jv_O X M_X13_map _ jeI 23 [some (.ref (a0)), some (.int (a1)), some (.int (a2)), some (.int (a3)), some (.int (a4)), some (.int (a5)), none] [.int (v10)] h11 _
    refine jv_if_eq (tgt := 41) (jv_dk t_X13_map (k := 12) rfl) rfl (fun c12 => ?_) (fun c12 => ?_)
    · refine jv_iconst (v := 0) (jv_dk t_X13_map (k := 20) rfl) (by decide) ?_
      exact o_f_X13_map_b42 _ _ _ _ _ _ _ _ 
    · show jv_O _ _ _ _ 26 _ _ _ _
      refine jv_iload (jv_dk t_X13_map (k := 13) rfl) rfl ?_
      refine jv_iconst (v := 0) (jv_dk t_X13_map (k := 14) rfl) (by decide) ?_
      refine jv_bipush (v := 99) (jv_dk t_X13_map (k := 15) rfl) (by decide) ?_
      refine jv_callS (en' := jeI) (pv := jpI) (As := [.int (a5), .int (0), .int (99)]) (S := []) (jv_dk t_X13_map (k := 16) rfl) (fun _ => rfl) (Or.inl lk_X13_169) me_X13_isIn ms_X13_isIn ⟨by decide, by decide⟩ rfl rfl (Nat.le_of_ble_eq_true rfl) (P_X13_isIn X a5 0 99 h11) (fun v13 h14 => ?_)
      show jv_O X M_X13_map _ jeI 34 [some (.ref (a0)), some (.int (a1)), some (.int (a2)), some (.int (a3)), some (.int (a4)), some (.int (a5)), none] [.int (v13)] h14 _
      refine jv_if_eq (tgt := 41) (jv_dk t_X13_map (k := 17) rfl) rfl (fun c15 => ?_) (fun c15 => ?_)
      · refine jv_iconst (v := 0) (jv_dk t_X13_map (k := 20) rfl) (by decide) ?_
        exact o_f_X13_map_b42 _ _ _ _ _ _ _ _ 
      · show jv_O _ _ _ _ 37 _ _ _ _
        refine jv_iconst (v := 1) (jv_dk t_X13_map (k := 18) rfl) (by decide) ?_
        refine jv_goto (tgt := 42) (jv_dk t_X13_map (k := 19) rfl) rfl ?_
        exact o_f_X13_map_b42 _ _ _ _ _ _ _ _ 
def t0_X13_become : List (Nat × Instr × Nat) := [(0, .aload_n 0, 1), (1, .iconst 0, 1), (2, .putfield 96, 3), (5, .aload_n 0, 1), (6, .iconst 5, 1), (7, .iload_n 1, 1), (8, .iload_n 2, 1), (9, .iconst 0, 1), (10, .iconst 0, 1), (11, .iconst 0, 1), (12, .invokevirtual 330, 3), (15, .ireturn, 1)]
theorem t_X13_become : jv_dec cX13_become t0_X13_become = true := by decide +kernel
def M_X13_become : jm := (yX13_become, cX13_become, 3, (some .int), 8, 202, [])
def f_X13_become (a0 : Nat) (a1 : Int32) (a2 : Int32) (h : jh) : Option (Int32 × jh) :=
  pV h a0 11 1 (.int (0)) fun h1 =>
  cV h1 a0 11 (f_X13_act a0 5 a1 a2 0 0 0 h1) fun v2 h3 =>
  some (v2, h3)
theorem P_X13_become (X : jx) (a0 : Nat) (a1 : Int32) (a2 : Int32) (h : jh) : jv_P X M_X13_become jeI [.ref (a0), .int (a1), .int (a2)] h (f_X13_become a0 a1 a2 h) := by
  refine jv_P.of (by decide) rfl (by simp [Value.category]) (Nat.le_of_ble_eq_true rfl) ?_
  show jv_O X M_X13_become (h.1, h.2.1) jeI 0 [some (.ref (a0)), some (.int (a1)), some (.int (a2))] [] h (f_X13_become a0 a1 a2 h)
  unfold f_X13_become
  refine jv_aload_n (jv_dk t_X13_become (k := 0) rfl) rfl rfl (Or.inr ⟨_, rfl⟩) ?_
  refine jv_iconst (v := 0) (jv_dk t_X13_become (k := 1) rfl) (by decide) ?_
  refine jv_pV (jv_dk t_X13_become (k := 2) rfl) fl_X13_96 kX13 (Or.inl rfl) rfl rfl rfl (fun h1 => ?_)
  refine jv_aload_n (jv_dk t_X13_become (k := 3) rfl) rfl rfl (Or.inr ⟨_, rfl⟩) ?_
  refine jv_iconst (v := 5) (jv_dk t_X13_become (k := 4) rfl) (by decide) ?_
  refine jv_iload_n (jv_dk t_X13_become (k := 5) rfl) rfl rfl ?_
  refine jv_iload_n (jv_dk t_X13_become (k := 6) rfl) rfl rfl ?_
  refine jv_iconst (v := 0) (jv_dk t_X13_become (k := 7) rfl) (by decide) ?_
  refine jv_iconst (v := 0) (jv_dk t_X13_become (k := 8) rfl) (by decide) ?_
  refine jv_iconst (v := 0) (jv_dk t_X13_become (k := 9) rfl) (by decide) ?_
  refine jv_callV (en' := jeI) (pv := jpI) (As := [.int (5), .int (a1), .int (a2), .int (0), .int (0), .int (0)]) (S := []) (jv_dk t_X13_become (k := 10) rfl) (fun _ => rfl) (Or.inl lk_X13_330) me_X13_act mv_X13_act ⟨by decide, by decide⟩ rfl rfl rfl (Nat.le_of_ble_eq_true rfl) (P_X13_act X a0 5 a1 a2 0 0 0 h1) (fun v2 h3 => ?_)
  show jv_O X M_X13_become _ jeI 15 [some (.ref (a0)), some (.int (a1)), some (.int (a2))] [.int (v2)] h3 _
  exact jv_iret (ty := .int) (jv_dk t_X13_become (k := 11) rfl) rfl rfl rfl
def t0_X13_mount : List (Nat × Instr × Nat) := [(0, .aload_n 0, 1), (1, .iconst 0, 1), (2, .putfield 96, 3), (5, .aload_n 0, 1), (6, .bipush 6, 2), (8, .iload_n 1, 1), (9, .iload_n 2, 1), (10, .iload_n 3, 1), (11, .iconst 0, 1), (12, .iconst 0, 1), (13, .invokevirtual 330, 3), (16, .ireturn, 1)]
theorem t_X13_mount : jv_dec cX13_mount t0_X13_mount = true := by decide +kernel
def M_X13_mount : jm := (yX13_mount, cX13_mount, 4, (some .int), 8, 202, [])
def f_X13_mount (a0 : Nat) (a1 : Int32) (a2 : Int32) (a3 : Int32) (h : jh) : Option (Int32 × jh) :=
  pV h a0 11 1 (.int (0)) fun h1 =>
  cV h1 a0 11 (f_X13_act a0 6 a1 a2 a3 0 0 h1) fun v2 h3 =>
  some (v2, h3)
theorem P_X13_mount (X : jx) (a0 : Nat) (a1 : Int32) (a2 : Int32) (a3 : Int32) (h : jh) : jv_P X M_X13_mount jeI [.ref (a0), .int (a1), .int (a2), .int (a3)] h (f_X13_mount a0 a1 a2 a3 h) := by
  refine jv_P.of (by decide) rfl (by simp [Value.category]) (Nat.le_of_ble_eq_true rfl) ?_
  show jv_O X M_X13_mount (h.1, h.2.1) jeI 0 [some (.ref (a0)), some (.int (a1)), some (.int (a2)), some (.int (a3))] [] h (f_X13_mount a0 a1 a2 a3 h)
  unfold f_X13_mount
  refine jv_aload_n (jv_dk t_X13_mount (k := 0) rfl) rfl rfl (Or.inr ⟨_, rfl⟩) ?_
  refine jv_iconst (v := 0) (jv_dk t_X13_mount (k := 1) rfl) (by decide) ?_
  refine jv_pV (jv_dk t_X13_mount (k := 2) rfl) fl_X13_96 kX13 (Or.inl rfl) rfl rfl rfl (fun h1 => ?_)
  refine jv_aload_n (jv_dk t_X13_mount (k := 3) rfl) rfl rfl (Or.inr ⟨_, rfl⟩) ?_
  refine jv_bipush (v := 6) (jv_dk t_X13_mount (k := 4) rfl) (by decide) ?_
  refine jv_iload_n (jv_dk t_X13_mount (k := 5) rfl) rfl rfl ?_
  refine jv_iload_n (jv_dk t_X13_mount (k := 6) rfl) rfl rfl ?_
  refine jv_iload_n (jv_dk t_X13_mount (k := 7) rfl) rfl rfl ?_
  refine jv_iconst (v := 0) (jv_dk t_X13_mount (k := 8) rfl) (by decide) ?_
  refine jv_iconst (v := 0) (jv_dk t_X13_mount (k := 9) rfl) (by decide) ?_
  refine jv_callV (en' := jeI) (pv := jpI) (As := [.int (6), .int (a1), .int (a2), .int (a3), .int (0), .int (0)]) (S := []) (jv_dk t_X13_mount (k := 10) rfl) (fun _ => rfl) (Or.inl lk_X13_330) me_X13_act mv_X13_act ⟨by decide, by decide⟩ rfl rfl rfl (Nat.le_of_ble_eq_true rfl) (P_X13_act X a0 6 a1 a2 a3 0 0 h1) (fun v2 h3 => ?_)
  show jv_O X M_X13_mount _ jeI 16 [some (.ref (a0)), some (.int (a1)), some (.int (a2)), some (.int (a3))] [.int (v2)] h3 _
  exact jv_iret (ty := .int) (jv_dk t_X13_mount (k := 11) rfl) rfl rfl rfl
def t0_X13_share : List (Nat × Instr × Nat) := [(0, .aload_n 0, 1), (1, .iconst 0, 1), (2, .putfield 96, 3), (5, .aload_n 0, 1), (6, .bipush 10, 2), (8, .iload_n 1, 1), (9, .iconst 0, 1), (10, .iconst 0, 1), (11, .iconst 0, 1), (12, .iconst 0, 1), (13, .invokevirtual 330, 3), (16, .ireturn, 1)]
theorem t_X13_share : jv_dec cX13_share t0_X13_share = true := by decide +kernel
def M_X13_share : jm := (yX13_share, cX13_share, 2, (some .int), 8, 202, [])
def f_X13_share (a0 : Nat) (a1 : Int32) (h : jh) : Option (Int32 × jh) :=
  pV h a0 11 1 (.int (0)) fun h1 =>
  cV h1 a0 11 (f_X13_act a0 10 a1 0 0 0 0 h1) fun v2 h3 =>
  some (v2, h3)
theorem P_X13_share (X : jx) (a0 : Nat) (a1 : Int32) (h : jh) : jv_P X M_X13_share jeI [.ref (a0), .int (a1)] h (f_X13_share a0 a1 h) := by
  refine jv_P.of (by decide) rfl (by simp [Value.category]) (Nat.le_of_ble_eq_true rfl) ?_
  show jv_O X M_X13_share (h.1, h.2.1) jeI 0 [some (.ref (a0)), some (.int (a1))] [] h (f_X13_share a0 a1 h)
  unfold f_X13_share
  refine jv_aload_n (jv_dk t_X13_share (k := 0) rfl) rfl rfl (Or.inr ⟨_, rfl⟩) ?_
  refine jv_iconst (v := 0) (jv_dk t_X13_share (k := 1) rfl) (by decide) ?_
  refine jv_pV (jv_dk t_X13_share (k := 2) rfl) fl_X13_96 kX13 (Or.inl rfl) rfl rfl rfl (fun h1 => ?_)
  refine jv_aload_n (jv_dk t_X13_share (k := 3) rfl) rfl rfl (Or.inr ⟨_, rfl⟩) ?_
  refine jv_bipush (v := 10) (jv_dk t_X13_share (k := 4) rfl) (by decide) ?_
  refine jv_iload_n (jv_dk t_X13_share (k := 5) rfl) rfl rfl ?_
  refine jv_iconst (v := 0) (jv_dk t_X13_share (k := 6) rfl) (by decide) ?_
  refine jv_iconst (v := 0) (jv_dk t_X13_share (k := 7) rfl) (by decide) ?_
  refine jv_iconst (v := 0) (jv_dk t_X13_share (k := 8) rfl) (by decide) ?_
  refine jv_iconst (v := 0) (jv_dk t_X13_share (k := 9) rfl) (by decide) ?_
  refine jv_callV (en' := jeI) (pv := jpI) (As := [.int (10), .int (a1), .int (0), .int (0), .int (0), .int (0)]) (S := []) (jv_dk t_X13_share (k := 10) rfl) (fun _ => rfl) (Or.inl lk_X13_330) me_X13_act mv_X13_act ⟨by decide, by decide⟩ rfl rfl rfl (Nat.le_of_ble_eq_true rfl) (P_X13_act X a0 10 a1 0 0 0 0 h1) (fun v2 h3 => ?_)
  show jv_O X M_X13_share _ jeI 16 [some (.ref (a0)), some (.int (a1))] [.int (v2)] h3 _
  exact jv_iret (ty := .int) (jv_dk t_X13_share (k := 11) rfl) rfl rfl rfl
def t0_X13_enter : List (Nat × Instr × Nat) := [(0, .aload_n 0, 1), (1, .iconst 0, 1), (2, .putfield 96, 3), (5, .iload_n 3, 1), (6, .iconst 0, 1), (7, .iconst 2, 1), (8, .invokestatic 169, 3), (11, .ifCond .eq 17, 3), (14, .aload_n 0, 1), (15, .bipush 7, 2), (17, .iload_n 1, 1), (18, .iload_n 2, 1), (19, .iload_n 3, 1), (20, .iconst 0, 1), (21, .iconst 0, 1), (22, .invokevirtual 330, 3), (25, .goto 8, 3), (28, .aload_n 0, 1), (29, .iconst 1, 1), (30, .invokevirtual 327, 3), (33, .ireturn, 1)]
theorem t_X13_enter : jv_dec cX13_enter t0_X13_enter = true := by decide +kernel
def M_X13_enter : jm := (yX13_enter, cX13_enter, 4, (some .int), 8, 202, [])
def f_X13_enter (a0 : Nat) (a1 : Int32) (a2 : Int32) (a3 : Int32) (h : jh) : Option (Int32 × jh) :=
  pV h a0 11 1 (.int (0)) fun h1 =>
  bd (f_X13_isIn a3 0 2 h1) fun v2 h3 =>
  (if v2 = 0 then
  cV h3 a0 11 (f_X13_refuse a0 1 h3) fun v5 h6 =>
  some (v5, h6)
  else
  cV h3 a0 11 (f_X13_act a0 7 a1 a2 a3 0 0 h3) fun v7 h8 =>
  some (v7, h8))
theorem P_X13_enter (X : jx) (a0 : Nat) (a1 : Int32) (a2 : Int32) (a3 : Int32) (h : jh) : jv_P X M_X13_enter jeI [.ref (a0), .int (a1), .int (a2), .int (a3)] h (f_X13_enter a0 a1 a2 a3 h) := by
  refine jv_P.of (by decide) rfl (by simp [Value.category]) (Nat.le_of_ble_eq_true rfl) ?_
  show jv_O X M_X13_enter (h.1, h.2.1) jeI 0 [some (.ref (a0)), some (.int (a1)), some (.int (a2)), some (.int (a3))] [] h (f_X13_enter a0 a1 a2 a3 h)
  unfold f_X13_enter
  refine jv_aload_n (jv_dk t_X13_enter (k := 0) rfl) rfl rfl (Or.inr ⟨_, rfl⟩) ?_
  refine jv_iconst (v := 0) (jv_dk t_X13_enter (k := 1) rfl) (by decide) ?_
  refine jv_pV (jv_dk t_X13_enter (k := 2) rfl) fl_X13_96 kX13 (Or.inl rfl) rfl rfl rfl (fun h1 => ?_)
  refine jv_iload_n (jv_dk t_X13_enter (k := 3) rfl) rfl rfl ?_
  refine jv_iconst (v := 0) (jv_dk t_X13_enter (k := 4) rfl) (by decide) ?_
  refine jv_iconst (v := 2) (jv_dk t_X13_enter (k := 5) rfl) (by decide) ?_
  refine jv_callS (en' := jeI) (pv := jpI) (As := [.int (a3), .int (0), .int (2)]) (S := []) (jv_dk t_X13_enter (k := 6) rfl) (fun _ => rfl) (Or.inl lk_X13_169) me_X13_isIn ms_X13_isIn ⟨by decide, by decide⟩ rfl rfl (Nat.le_of_ble_eq_true rfl) (P_X13_isIn X a3 0 2 h1) (fun v2 h3 => ?_)
  show jv_O X M_X13_enter _ jeI 11 [some (.ref (a0)), some (.int (a1)), some (.int (a2)), some (.int (a3))] [.int (v2)] h3 _
  refine jv_if_eq (tgt := 28) (jv_dk t_X13_enter (k := 7) rfl) rfl (fun c4 => ?_) (fun c4 => ?_)
  · refine jv_aload_n (jv_dk t_X13_enter (k := 17) rfl) rfl rfl (Or.inr ⟨_, rfl⟩) ?_
    refine jv_iconst (v := 1) (jv_dk t_X13_enter (k := 18) rfl) (by decide) ?_
    refine jv_callV (en' := jeI) (pv := jpI) (As := [.int (1)]) (S := []) (jv_dk t_X13_enter (k := 19) rfl) (fun _ => rfl) (Or.inl lk_X13_327) me_X13_refuse mv_X13_refuse ⟨by decide, by decide⟩ rfl rfl rfl (Nat.le_of_ble_eq_true rfl) (P_X13_refuse X a0 1 h3) (fun v5 h6 => ?_)
    show jv_O X M_X13_enter _ jeI 33 [some (.ref (a0)), some (.int (a1)), some (.int (a2)), some (.int (a3))] [.int (v5)] h6 _
    exact jv_iret (ty := .int) (jv_dk t_X13_enter (k := 20) rfl) rfl rfl rfl
  · show jv_O _ _ _ _ 14 _ _ _ _
    refine jv_aload_n (jv_dk t_X13_enter (k := 8) rfl) rfl rfl (Or.inr ⟨_, rfl⟩) ?_
    refine jv_bipush (v := 7) (jv_dk t_X13_enter (k := 9) rfl) (by decide) ?_
    refine jv_iload_n (jv_dk t_X13_enter (k := 10) rfl) rfl rfl ?_
    refine jv_iload_n (jv_dk t_X13_enter (k := 11) rfl) rfl rfl ?_
    refine jv_iload_n (jv_dk t_X13_enter (k := 12) rfl) rfl rfl ?_
    refine jv_iconst (v := 0) (jv_dk t_X13_enter (k := 13) rfl) (by decide) ?_
    refine jv_iconst (v := 0) (jv_dk t_X13_enter (k := 14) rfl) (by decide) ?_
    refine jv_callV (en' := jeI) (pv := jpI) (As := [.int (7), .int (a1), .int (a2), .int (a3), .int (0), .int (0)]) (S := []) (jv_dk t_X13_enter (k := 15) rfl) (fun _ => rfl) (Or.inl lk_X13_330) me_X13_act mv_X13_act ⟨by decide, by decide⟩ rfl rfl rfl (Nat.le_of_ble_eq_true rfl) (P_X13_act X a0 7 a1 a2 a3 0 0 h3) (fun v7 h8 => ?_)
    show jv_O X M_X13_enter _ jeI 25 [some (.ref (a0)), some (.int (a1)), some (.int (a2)), some (.int (a3))] [.int (v7)] h8 _
    refine jv_goto (tgt := 33) (jv_dk t_X13_enter (k := 16) rfl) rfl ?_
    exact jv_iret (ty := .int) (jv_dk t_X13_enter (k := 20) rfl) rfl rfl rfl
def t0_X13_end : List (Nat × Instr × Nat) := [(0, .aload_n 0, 1), (1, .iconst 0, 1), (2, .putfield 96, 3), (5, .aload_n 0, 1), (6, .bipush 8, 2), (8, .iload_n 1, 1), (9, .iconst 0, 1), (10, .iconst 0, 1), (11, .iconst 0, 1), (12, .iconst 0, 1), (13, .invokevirtual 330, 3), (16, .ireturn, 1)]
theorem t_X13_end : jv_dec cX13_end t0_X13_end = true := by decide +kernel
def M_X13_end : jm := (yX13_end, cX13_end, 2, (some .int), 8, 202, [])
def f_X13_end (a0 : Nat) (a1 : Int32) (h : jh) : Option (Int32 × jh) :=
  pV h a0 11 1 (.int (0)) fun h1 =>
  cV h1 a0 11 (f_X13_act a0 8 a1 0 0 0 0 h1) fun v2 h3 =>
  some (v2, h3)
theorem P_X13_end (X : jx) (a0 : Nat) (a1 : Int32) (h : jh) : jv_P X M_X13_end jeI [.ref (a0), .int (a1)] h (f_X13_end a0 a1 h) := by
  refine jv_P.of (by decide) rfl (by simp [Value.category]) (Nat.le_of_ble_eq_true rfl) ?_
  show jv_O X M_X13_end (h.1, h.2.1) jeI 0 [some (.ref (a0)), some (.int (a1))] [] h (f_X13_end a0 a1 h)
  unfold f_X13_end
  refine jv_aload_n (jv_dk t_X13_end (k := 0) rfl) rfl rfl (Or.inr ⟨_, rfl⟩) ?_
  refine jv_iconst (v := 0) (jv_dk t_X13_end (k := 1) rfl) (by decide) ?_
  refine jv_pV (jv_dk t_X13_end (k := 2) rfl) fl_X13_96 kX13 (Or.inl rfl) rfl rfl rfl (fun h1 => ?_)
  refine jv_aload_n (jv_dk t_X13_end (k := 3) rfl) rfl rfl (Or.inr ⟨_, rfl⟩) ?_
  refine jv_bipush (v := 8) (jv_dk t_X13_end (k := 4) rfl) (by decide) ?_
  refine jv_iload_n (jv_dk t_X13_end (k := 5) rfl) rfl rfl ?_
  refine jv_iconst (v := 0) (jv_dk t_X13_end (k := 6) rfl) (by decide) ?_
  refine jv_iconst (v := 0) (jv_dk t_X13_end (k := 7) rfl) (by decide) ?_
  refine jv_iconst (v := 0) (jv_dk t_X13_end (k := 8) rfl) (by decide) ?_
  refine jv_iconst (v := 0) (jv_dk t_X13_end (k := 9) rfl) (by decide) ?_
  refine jv_callV (en' := jeI) (pv := jpI) (As := [.int (8), .int (a1), .int (0), .int (0), .int (0), .int (0)]) (S := []) (jv_dk t_X13_end (k := 10) rfl) (fun _ => rfl) (Or.inl lk_X13_330) me_X13_act mv_X13_act ⟨by decide, by decide⟩ rfl rfl rfl (Nat.le_of_ble_eq_true rfl) (P_X13_act X a0 8 a1 0 0 0 0 h1) (fun v2 h3 => ?_)
  show jv_O X M_X13_end _ jeI 16 [some (.ref (a0)), some (.int (a1))] [.int (v2)] h3 _
  exact jv_iret (ty := .int) (jv_dk t_X13_end (k := 11) rfl) rfl rfl rfl
def t0_X13_kill : List (Nat × Instr × Nat) := [(0, .aload_n 0, 1), (1, .iconst 0, 1), (2, .putfield 96, 3), (5, .aload_n 0, 1), (6, .bipush 9, 2), (8, .iload_n 1, 1), (9, .iload_n 2, 1), (10, .iconst 0, 1), (11, .iconst 0, 1), (12, .iconst 0, 1), (13, .invokevirtual 330, 3), (16, .ireturn, 1)]
theorem t_X13_kill : jv_dec cX13_kill t0_X13_kill = true := by decide +kernel
def M_X13_kill : jm := (yX13_kill, cX13_kill, 3, (some .int), 8, 202, [])
def f_X13_kill (a0 : Nat) (a1 : Int32) (a2 : Int32) (h : jh) : Option (Int32 × jh) :=
  pV h a0 11 1 (.int (0)) fun h1 =>
  cV h1 a0 11 (f_X13_act a0 9 a1 a2 0 0 0 h1) fun v2 h3 =>
  some (v2, h3)
theorem P_X13_kill (X : jx) (a0 : Nat) (a1 : Int32) (a2 : Int32) (h : jh) : jv_P X M_X13_kill jeI [.ref (a0), .int (a1), .int (a2)] h (f_X13_kill a0 a1 a2 h) := by
  refine jv_P.of (by decide) rfl (by simp [Value.category]) (Nat.le_of_ble_eq_true rfl) ?_
  show jv_O X M_X13_kill (h.1, h.2.1) jeI 0 [some (.ref (a0)), some (.int (a1)), some (.int (a2))] [] h (f_X13_kill a0 a1 a2 h)
  unfold f_X13_kill
  refine jv_aload_n (jv_dk t_X13_kill (k := 0) rfl) rfl rfl (Or.inr ⟨_, rfl⟩) ?_
  refine jv_iconst (v := 0) (jv_dk t_X13_kill (k := 1) rfl) (by decide) ?_
  refine jv_pV (jv_dk t_X13_kill (k := 2) rfl) fl_X13_96 kX13 (Or.inl rfl) rfl rfl rfl (fun h1 => ?_)
  refine jv_aload_n (jv_dk t_X13_kill (k := 3) rfl) rfl rfl (Or.inr ⟨_, rfl⟩) ?_
  refine jv_bipush (v := 9) (jv_dk t_X13_kill (k := 4) rfl) (by decide) ?_
  refine jv_iload_n (jv_dk t_X13_kill (k := 5) rfl) rfl rfl ?_
  refine jv_iload_n (jv_dk t_X13_kill (k := 6) rfl) rfl rfl ?_
  refine jv_iconst (v := 0) (jv_dk t_X13_kill (k := 7) rfl) (by decide) ?_
  refine jv_iconst (v := 0) (jv_dk t_X13_kill (k := 8) rfl) (by decide) ?_
  refine jv_iconst (v := 0) (jv_dk t_X13_kill (k := 9) rfl) (by decide) ?_
  refine jv_callV (en' := jeI) (pv := jpI) (As := [.int (9), .int (a1), .int (a2), .int (0), .int (0), .int (0)]) (S := []) (jv_dk t_X13_kill (k := 10) rfl) (fun _ => rfl) (Or.inl lk_X13_330) me_X13_act mv_X13_act ⟨by decide, by decide⟩ rfl rfl rfl (Nat.le_of_ble_eq_true rfl) (P_X13_act X a0 9 a1 a2 0 0 0 h1) (fun v2 h3 => ?_)
  show jv_O X M_X13_kill _ jeI 16 [some (.ref (a0)), some (.int (a1)), some (.int (a2))] [.int (v2)] h3 _
  exact jv_iret (ty := .int) (jv_dk t_X13_kill (k := 11) rfl) rfl rfl rfl
def t0_X13_undo : List (Nat × Instr × Nat) := [(0, .aload_n 0, 1), (1, .iconst 0, 1), (2, .putfield 96, 3), (5, .aload_n 0, 1), (6, .getfield 195, 3), (9, .ifCond .ne 5, 3), (12, .iconst (-1), 1), (13, .ireturn, 1), (14, .aload_n 0, 1), (15, .dup, 1), (16, .getfield 195, 3), (19, .iconst 1, 1), (20, .isub, 1), (21, .putfield 195, 3), (24, .iconst 0, 1), (25, .istore_n 1, 1), (26, .iload_n 1, 1), (27, .sipush 595, 3), (30, .if_icmp .ge 30, 3), (33, .aload_n 0, 1), (34, .getfield 37, 3), (37, .iload_n 1, 1), (38, .aload_n 0, 1), (39, .getfield 57, 3), (42, .sipush 595, 3), (45, .aload_n 0, 1), (46, .getfield 195, 3), (49, .imul, 1), (50, .iload_n 1, 1), (51, .iadd, 1), (52, .iaload, 1), (53, .iastore, 1), (54, .iinc 1 1, 3), (57, .goto (-31), 3), (60, .aload_n 0, 1), (61, .getfield 195, 3), (64, .ireturn, 1)]
theorem t_X13_undo : jv_dec cX13_undo t0_X13_undo = true := by decide +kernel
def M_X13_undo : jm := (yX13_undo, cX13_undo, 2, (some .int), 0, 0, [])
def f_X13_undo_h26 (K26 : Nat → jh → Option (Int32 × jh)) (R26 : Nat → Int32 → jh → Option (Int32 × jh)) (x0 : Nat) (x1 : Int32) (h : jh) : Option (Int32 × jh) :=
  (if 595 ≤ x1 then
  K26 x0 h
  else
  gR h x0 11 2 fun v7 =>
  gR h x0 11 19 fun v8 =>
  gI h x0 11 18 fun v9 =>
  aI h v8 ((595 * v9) + x1) fun v10 =>
  sI h v7 x1 v10 fun h11 =>
  R26 x0 (x1 + 1) h11)
theorem o_f_X13_undo_h26 {X : jx} {b0 : Nat × Nat} {K26 : Nat → jh → Option (Int32 × jh)} (hK26 : ∀ (x0 : Nat) (h : jh), jv_O X M_X13_undo b0 jeI 60 [some (.ref (x0)), none] [] h (K26 x0 h)) : ∀ (x0 : Nat) (x1 : Int32) (h : jh), jv_O X M_X13_undo b0 jeI 26 [some (.ref (x0)), some (.int (x1))] [] h (jlp2 (f_X13_undo_h26 K26) jfu x0 x1 h) := by
  refine jlp2_ok (P := fun x0 x1 h o => jv_O X M_X13_undo b0 jeI 26 [some (.ref (x0)), some (.int (x1))] [] h o) (fun R26 hR26 => ?_) (fun _ _ _  => jv_none rfl) jfu
  intro x0 x1 h
  unfold f_X13_undo_h26
  refine jv_iload_n (jv_dk t_X13_undo (k := 16) rfl) rfl rfl ?_
  refine jv_sipush (v := 595) (jv_dk t_X13_undo (k := 17) rfl) (by decide) ?_
  refine jv_icmp_ge (tgt := 60) (jv_dk t_X13_undo (k := 18) rfl) rfl (fun c6 => ?_) (fun c6 => ?_)
  · refine jv_le_row (jv_le_s (jv_le_n (jv_le_nil))) ?_
    exact hK26 _ _ 
  · show jv_O _ _ _ _ 33 _ _ _ _
    refine jv_aload_n (jv_dk t_X13_undo (k := 19) rfl) rfl rfl (Or.inr ⟨_, rfl⟩) ?_
    refine jv_gR (jv_dk t_X13_undo (k := 20) rfl) fl_X13_37 (fun v7 => ?_)
    refine jv_iload_n (jv_dk t_X13_undo (k := 21) rfl) rfl rfl ?_
    refine jv_aload_n (jv_dk t_X13_undo (k := 22) rfl) rfl rfl (Or.inr ⟨_, rfl⟩) ?_
    refine jv_gR (jv_dk t_X13_undo (k := 23) rfl) fl_X13_57 (fun v8 => ?_)
    refine jv_sipush (v := 595) (jv_dk t_X13_undo (k := 24) rfl) (by decide) ?_
    refine jv_aload_n (jv_dk t_X13_undo (k := 25) rfl) rfl rfl (Or.inr ⟨_, rfl⟩) ?_
    refine jv_gI (jv_dk t_X13_undo (k := 26) rfl) fl_X13_195 (fun v9 => ?_)
    refine jv_imul (jv_dk t_X13_undo (k := 27) rfl) ?_
    refine jv_iload_n (jv_dk t_X13_undo (k := 28) rfl) rfl rfl ?_
    refine jv_iadd (jv_dk t_X13_undo (k := 29) rfl) ?_
    refine jv_iaload (jv_dk t_X13_undo (k := 30) rfl) (fun v10 => ?_)
    refine jv_iastore (jv_dk t_X13_undo (k := 31) rfl) (fun h11 => ?_)
    refine jv_iinc (v := 1) (L' := [some (.ref (x0)), some (.int (x1 + 1))]) (jv_dk t_X13_undo (k := 32) rfl) rfl (by decide) rfl ?_
    refine jv_goto (tgt := 26) (jv_dk t_X13_undo (k := 33) rfl) rfl ?_
    exact hR26 _ _ _ 
def f_X13_undo (a0 : Nat) (h : jh) : Option (Int32 × jh) :=
  pV h a0 11 1 (.int (0)) fun h1 =>
  gI h1 a0 11 18 fun v2 =>
  (if ¬ v2 = 0 then
  gI h1 a0 11 18 fun v4 =>
  pV h1 a0 11 18 (.int (v4 - 1)) fun h5 =>
  jlp2 (f_X13_undo_h26 (fun y13 h12 =>
  gI h12 y13 11 18 fun v14 =>
  some (v14, h12))) jfu a0 0 h5
  else
  some ((-1), h1))
theorem P_X13_undo (X : jx) (a0 : Nat) (h : jh) : jv_P X M_X13_undo jeI [.ref (a0)] h (f_X13_undo a0 h) := by
  refine jv_P.of (by decide) rfl (by simp [Value.category]) (Nat.le_of_ble_eq_true rfl) ?_
  show jv_O X M_X13_undo (h.1, h.2.1) jeI 0 [some (.ref (a0)), none] [] h (f_X13_undo a0 h)
  unfold f_X13_undo
  refine jv_aload_n (jv_dk t_X13_undo (k := 0) rfl) rfl rfl (Or.inr ⟨_, rfl⟩) ?_
  refine jv_iconst (v := 0) (jv_dk t_X13_undo (k := 1) rfl) (by decide) ?_
  refine jv_pV (jv_dk t_X13_undo (k := 2) rfl) fl_X13_96 kX13 (Or.inl rfl) rfl rfl rfl (fun h1 => ?_)
  refine jv_aload_n (jv_dk t_X13_undo (k := 3) rfl) rfl rfl (Or.inr ⟨_, rfl⟩) ?_
  refine jv_gI (jv_dk t_X13_undo (k := 4) rfl) fl_X13_195 (fun v2 => ?_)
  refine jv_if_ne (tgt := 14) (jv_dk t_X13_undo (k := 5) rfl) rfl (fun c3 => ?_) (fun c3 => ?_)
  · refine jv_aload_n (jv_dk t_X13_undo (k := 8) rfl) rfl rfl (Or.inr ⟨_, rfl⟩) ?_
    refine jv_dup (jv_dk t_X13_undo (k := 9) rfl) rfl ?_
    refine jv_gI (jv_dk t_X13_undo (k := 10) rfl) fl_X13_195 (fun v4 => ?_)
    refine jv_iconst (v := 1) (jv_dk t_X13_undo (k := 11) rfl) (by decide) ?_
    refine jv_isub (jv_dk t_X13_undo (k := 12) rfl) ?_
    refine jv_pV (jv_dk t_X13_undo (k := 13) rfl) fl_X13_195 kX13 (Or.inl rfl) rfl rfl rfl (fun h5 => ?_)
    refine jv_iconst (v := 0) (jv_dk t_X13_undo (k := 14) rfl) (by decide) ?_
    refine jv_istore_n (L' := [some (.ref (a0)), some (.int (0))]) (jv_dk t_X13_undo (k := 15) rfl) rfl (Nat.le_of_ble_eq_true rfl) rfl ?_
    refine o_f_X13_undo_h26 (fun y13 h12 => ?_) _ _ _ 
    show jv_O X M_X13_undo _ jeI 60 [some (.ref (y13)), none] [] h12 _
    refine jv_aload_n (jv_dk t_X13_undo (k := 34) rfl) rfl rfl (Or.inr ⟨_, rfl⟩) ?_
    refine jv_gI (jv_dk t_X13_undo (k := 35) rfl) fl_X13_195 (fun v14 => ?_)
    exact jv_iret (ty := .int) (jv_dk t_X13_undo (k := 36) rfl) rfl rfl rfl
  · show jv_O _ _ _ _ 12 _ _ _ _
    refine jv_iconst (v := (-1)) (jv_dk t_X13_undo (k := 6) rfl) (by decide) ?_
    exact jv_iret (ty := .int) (jv_dk t_X13_undo (k := 7) rfl) rfl rfl rfl
def t0_X13_thereBits : List (Nat × Instr × Nat) := [(0, .iconst 0, 1), (1, .istore_n 1, 1), (2, .iconst 0, 1), (3, .istore_n 2, 1), (4, .iload_n 2, 1), (5, .bipush 16, 2), (7, .if_icmp .ge 20, 3), (10, .iload_n 1, 1), (11, .aload_n 0, 1), (12, .iload_n 2, 1), (13, .iconst 0, 1), (14, .invokevirtual 205, 3), (17, .iload_n 2, 1), (18, .ishl, 1), (19, .ior, 1), (20, .istore_n 1, 1), (21, .iinc 2 1, 3), (24, .goto (-20), 3), (27, .iload_n 1, 1), (28, .ireturn, 1)]
theorem t_X13_thereBits : jv_dec cX13_thereBits t0_X13_thereBits = true := by decide +kernel
def M_X13_thereBits : jm := (yX13_thereBits, cX13_thereBits, 3, (some .int), 1, 22, [])
def f_X13_thereBits_h4 (K4 : Int32 → jh → Option (Int32 × jh)) (R4 : Nat → Int32 → Int32 → jh → Option (Int32 × jh)) (x0 : Nat) (x1 : Int32) (x2 : Int32) (h : jh) : Option (Int32 × jh) :=
  (if 16 ≤ x2 then
  K4 x1 h
  else
  cV h x0 11 (f_X13_of x0 x2 0 h) fun v2 h3 =>
  R4 x0 (x1 ||| (v2 <<< (x2 &&& 31))) (x2 + 1) h3)
theorem o_f_X13_thereBits_h4 {X : jx} {b0 : Nat × Nat} {K4 : Int32 → jh → Option (Int32 × jh)} (hK4 : ∀ (x1 : Int32) (h : jh), jv_O X M_X13_thereBits b0 jeI 27 [none, some (.int (x1)), none] [] h (K4 x1 h)) : ∀ (x0 : Nat) (x1 : Int32) (x2 : Int32) (h : jh), jv_O X M_X13_thereBits b0 jeI 4 [some (.ref (x0)), some (.int (x1)), some (.int (x2))] [] h (jlp3 (f_X13_thereBits_h4 K4) jfu x0 x1 x2 h) := by
  refine jlp3_ok (P := fun x0 x1 x2 h o => jv_O X M_X13_thereBits b0 jeI 4 [some (.ref (x0)), some (.int (x1)), some (.int (x2))] [] h o) (fun R4 hR4 => ?_) (fun _ _ _ _  => jv_none rfl) jfu
  intro x0 x1 x2 h
  unfold f_X13_thereBits_h4
  refine jv_iload_n (jv_dk t_X13_thereBits (k := 4) rfl) rfl rfl ?_
  refine jv_bipush (v := 16) (jv_dk t_X13_thereBits (k := 5) rfl) (by decide) ?_
  refine jv_icmp_ge (tgt := 27) (jv_dk t_X13_thereBits (k := 6) rfl) rfl (fun c1 => ?_) (fun c1 => ?_)
  · refine jv_le_row (jv_le_n (jv_le_s (jv_le_n (jv_le_nil)))) ?_
    exact hK4 _ _ 
  · show jv_O _ _ _ _ 10 _ _ _ _
    refine jv_iload_n (jv_dk t_X13_thereBits (k := 7) rfl) rfl rfl ?_
    refine jv_aload_n (jv_dk t_X13_thereBits (k := 8) rfl) rfl rfl (Or.inr ⟨_, rfl⟩) ?_
    refine jv_iload_n (jv_dk t_X13_thereBits (k := 9) rfl) rfl rfl ?_
    refine jv_iconst (v := 0) (jv_dk t_X13_thereBits (k := 10) rfl) (by decide) ?_
    refine jv_callV (en' := jeI) (pv := jpI) (As := [.int (x2), .int (0)]) (S := [.int (x1)]) (jv_dk t_X13_thereBits (k := 11) rfl) (fun _ => rfl) (Or.inl lk_X13_205) me_X13_of mv_X13_of ⟨by decide, by decide⟩ rfl rfl rfl (Nat.le_of_ble_eq_true rfl) (P_X13_of X x0 x2 0 h) (fun v2 h3 => ?_)
    show jv_O X M_X13_thereBits _ jeI 17 [some (.ref (x0)), some (.int (x1)), some (.int (x2))] [.int (v2), .int (x1)] h3 _
    refine jv_iload_n (jv_dk t_X13_thereBits (k := 12) rfl) rfl rfl ?_
    refine jv_ishl (jv_dk t_X13_thereBits (k := 13) rfl) ?_
    refine jv_ior (jv_dk t_X13_thereBits (k := 14) rfl) ?_
    refine jv_istore_n (L' := [some (.ref (x0)), some (.int (x1 ||| (v2 <<< (x2 &&& 31)))), some (.int (x2))]) (jv_dk t_X13_thereBits (k := 15) rfl) rfl (Nat.le_of_ble_eq_true rfl) rfl ?_
    refine jv_iinc (v := 1) (L' := [some (.ref (x0)), some (.int (x1 ||| (v2 <<< (x2 &&& 31)))), some (.int (x2 + 1))]) (jv_dk t_X13_thereBits (k := 16) rfl) rfl (by decide) rfl ?_
    refine jv_goto (tgt := 4) (jv_dk t_X13_thereBits (k := 17) rfl) rfl ?_
    exact hR4 _ _ _ _ 
def f_X13_thereBits (a0 : Nat) (h : jh) : Option (Int32 × jh) :=
  jlp3 (f_X13_thereBits_h4 (fun y5 h4 =>
  some (y5, h4))) jfu a0 0 0 h
theorem P_X13_thereBits (X : jx) (a0 : Nat) (h : jh) : jv_P X M_X13_thereBits jeI [.ref (a0)] h (f_X13_thereBits a0 h) := by
  refine jv_P.of (by decide) rfl (by simp [Value.category]) (Nat.le_of_ble_eq_true rfl) ?_
  show jv_O X M_X13_thereBits (h.1, h.2.1) jeI 0 [some (.ref (a0)), none, none] [] h (f_X13_thereBits a0 h)
  unfold f_X13_thereBits
  refine jv_iconst (v := 0) (jv_dk t_X13_thereBits (k := 0) rfl) (by decide) ?_
  refine jv_istore_n (L' := [some (.ref (a0)), some (.int (0)), none]) (jv_dk t_X13_thereBits (k := 1) rfl) rfl (Nat.le_of_ble_eq_true rfl) rfl ?_
  refine jv_iconst (v := 0) (jv_dk t_X13_thereBits (k := 2) rfl) (by decide) ?_
  refine jv_istore_n (L' := [some (.ref (a0)), some (.int (0)), some (.int (0))]) (jv_dk t_X13_thereBits (k := 3) rfl) rfl (Nat.le_of_ble_eq_true rfl) rfl ?_
  refine o_f_X13_thereBits_h4 (fun y5 h4 => ?_) _ _ _ _ 
  show jv_O X M_X13_thereBits _ jeI 27 [none, some (.int (y5)), none] [] h4 _
  refine jv_iload_n (jv_dk t_X13_thereBits (k := 18) rfl) rfl rfl ?_
  exact jv_iret (ty := .int) (jv_dk t_X13_thereBits (k := 19) rfl) rfl rfl rfl
def t0_X13_powerBits : List (Nat × Instr × Nat) := [(0, .iconst 0, 1), (1, .istore_n 1, 1), (2, .iconst 0, 1), (3, .istore_n 2, 1), (4, .iload_n 2, 1), (5, .bipush 16, 2), (7, .if_icmp .ge 33, 3), (10, .iload_n 1, 1), (11, .aload_n 0, 1), (12, .iload_n 2, 1), (13, .invokevirtual 289, 3), (16, .ifCond .eq 15, 3), (19, .aload_n 0, 1), (20, .iload_n 2, 1), (21, .bipush 7, 2), (23, .invokevirtual 205, 3), (26, .iload_n 2, 1), (27, .ishl, 1), (28, .goto 4, 3), (31, .iconst 0, 1), (32, .ior, 1), (33, .istore_n 1, 1), (34, .iinc 2 1, 3), (37, .goto (-33), 3), (40, .iload_n 1, 1), (41, .ireturn, 1)]
theorem t_X13_powerBits : jv_dec cX13_powerBits t0_X13_powerBits = true := by decide +kernel
def M_X13_powerBits : jm := (yX13_powerBits, cX13_powerBits, 3, (some .int), 2, 43, [])
def f_X13_powerBits_h4 (K4 : Int32 → jh → Option (Int32 × jh)) (R4 : Nat → Int32 → Int32 → jh → Option (Int32 × jh)) (x0 : Nat) (x1 : Int32) (x2 : Int32) (h : jh) : Option (Int32 × jh) :=
  (if 16 ≤ x2 then
  K4 x1 h
  else
  cV h x0 11 (f_X13_isThere x0 x2 h) fun v2 h3 =>
  (if v2 = 0 then
  R4 x0 (x1 ||| 0) (x2 + 1) h3
  else
  cV h3 x0 11 (f_X13_of x0 x2 7 h3) fun v5 h6 =>
  R4 x0 (x1 ||| (v5 <<< (x2 &&& 31))) (x2 + 1) h6))
theorem o_f_X13_powerBits_h4 {X : jx} {b0 : Nat × Nat} {K4 : Int32 → jh → Option (Int32 × jh)} (hK4 : ∀ (x1 : Int32) (h : jh), jv_O X M_X13_powerBits b0 jeI 40 [none, some (.int (x1)), none] [] h (K4 x1 h)) : ∀ (x0 : Nat) (x1 : Int32) (x2 : Int32) (h : jh), jv_O X M_X13_powerBits b0 jeI 4 [some (.ref (x0)), some (.int (x1)), some (.int (x2))] [] h (jlp3 (f_X13_powerBits_h4 K4) jfu x0 x1 x2 h) := by
  refine jlp3_ok (P := fun x0 x1 x2 h o => jv_O X M_X13_powerBits b0 jeI 4 [some (.ref (x0)), some (.int (x1)), some (.int (x2))] [] h o) (fun R4 hR4 => ?_) (fun _ _ _ _  => jv_none rfl) jfu
  intro x0 x1 x2 h
  unfold f_X13_powerBits_h4
  refine jv_iload_n (jv_dk t_X13_powerBits (k := 4) rfl) rfl rfl ?_
  refine jv_bipush (v := 16) (jv_dk t_X13_powerBits (k := 5) rfl) (by decide) ?_
  refine jv_icmp_ge (tgt := 40) (jv_dk t_X13_powerBits (k := 6) rfl) rfl (fun c1 => ?_) (fun c1 => ?_)
  · refine jv_le_row (jv_le_n (jv_le_s (jv_le_n (jv_le_nil)))) ?_
    exact hK4 _ _ 
  · show jv_O _ _ _ _ 10 _ _ _ _
    refine jv_iload_n (jv_dk t_X13_powerBits (k := 7) rfl) rfl rfl ?_
    refine jv_aload_n (jv_dk t_X13_powerBits (k := 8) rfl) rfl rfl (Or.inr ⟨_, rfl⟩) ?_
    refine jv_iload_n (jv_dk t_X13_powerBits (k := 9) rfl) rfl rfl ?_
    refine jv_callV (en' := jeI) (pv := jpI) (As := [.int (x2)]) (S := [.int (x1)]) (jv_dk t_X13_powerBits (k := 10) rfl) (fun _ => rfl) (Or.inl lk_X13_289) me_X13_isThere mv_X13_isThere ⟨by decide, by decide⟩ rfl rfl rfl (Nat.le_of_ble_eq_true rfl) (P_X13_isThere X x0 x2 h) (fun v2 h3 => ?_)
    show jv_O X M_X13_powerBits _ jeI 16 [some (.ref (x0)), some (.int (x1)), some (.int (x2))] [.int (v2), .int (x1)] h3 _
    refine jv_if_eq (tgt := 31) (jv_dk t_X13_powerBits (k := 11) rfl) rfl (fun c4 => ?_) (fun c4 => ?_)
    · refine jv_iconst (v := 0) (jv_dk t_X13_powerBits (k := 19) rfl) (by decide) ?_
      refine jv_ior (jv_dk t_X13_powerBits (k := 20) rfl) ?_
      refine jv_istore_n (L' := [some (.ref (x0)), some (.int (x1 ||| 0)), some (.int (x2))]) (jv_dk t_X13_powerBits (k := 21) rfl) rfl (Nat.le_of_ble_eq_true rfl) rfl ?_
      refine jv_iinc (v := 1) (L' := [some (.ref (x0)), some (.int (x1 ||| 0)), some (.int (x2 + 1))]) (jv_dk t_X13_powerBits (k := 22) rfl) rfl (by decide) rfl ?_
      refine jv_goto (tgt := 4) (jv_dk t_X13_powerBits (k := 23) rfl) rfl ?_
      exact hR4 _ _ _ _ 
    · show jv_O _ _ _ _ 19 _ _ _ _
      refine jv_aload_n (jv_dk t_X13_powerBits (k := 12) rfl) rfl rfl (Or.inr ⟨_, rfl⟩) ?_
      refine jv_iload_n (jv_dk t_X13_powerBits (k := 13) rfl) rfl rfl ?_
      refine jv_bipush (v := 7) (jv_dk t_X13_powerBits (k := 14) rfl) (by decide) ?_
      refine jv_callV (en' := jeI) (pv := jpI) (As := [.int (x2), .int (7)]) (S := [.int (x1)]) (jv_dk t_X13_powerBits (k := 15) rfl) (fun _ => rfl) (Or.inl lk_X13_205) me_X13_of mv_X13_of ⟨by decide, by decide⟩ rfl rfl rfl (Nat.le_of_ble_eq_true rfl) (P_X13_of X x0 x2 7 h3) (fun v5 h6 => ?_)
      show jv_O X M_X13_powerBits _ jeI 26 [some (.ref (x0)), some (.int (x1)), some (.int (x2))] [.int (v5), .int (x1)] h6 _
      refine jv_iload_n (jv_dk t_X13_powerBits (k := 16) rfl) rfl rfl ?_
      refine jv_ishl (jv_dk t_X13_powerBits (k := 17) rfl) ?_
      refine jv_goto (tgt := 32) (jv_dk t_X13_powerBits (k := 18) rfl) rfl ?_
      refine jv_ior (jv_dk t_X13_powerBits (k := 20) rfl) ?_
      refine jv_istore_n (L' := [some (.ref (x0)), some (.int (x1 ||| (v5 <<< (x2 &&& 31)))), some (.int (x2))]) (jv_dk t_X13_powerBits (k := 21) rfl) rfl (Nat.le_of_ble_eq_true rfl) rfl ?_
      refine jv_iinc (v := 1) (L' := [some (.ref (x0)), some (.int (x1 ||| (v5 <<< (x2 &&& 31)))), some (.int (x2 + 1))]) (jv_dk t_X13_powerBits (k := 22) rfl) rfl (by decide) rfl ?_
      refine jv_goto (tgt := 4) (jv_dk t_X13_powerBits (k := 23) rfl) rfl ?_
      exact hR4 _ _ _ _ 
def f_X13_powerBits (a0 : Nat) (h : jh) : Option (Int32 × jh) :=
  jlp3 (f_X13_powerBits_h4 (fun y8 h7 =>
  some (y8, h7))) jfu a0 0 0 h
theorem P_X13_powerBits (X : jx) (a0 : Nat) (h : jh) : jv_P X M_X13_powerBits jeI [.ref (a0)] h (f_X13_powerBits a0 h) := by
  refine jv_P.of (by decide) rfl (by simp [Value.category]) (Nat.le_of_ble_eq_true rfl) ?_
  show jv_O X M_X13_powerBits (h.1, h.2.1) jeI 0 [some (.ref (a0)), none, none] [] h (f_X13_powerBits a0 h)
  unfold f_X13_powerBits
  refine jv_iconst (v := 0) (jv_dk t_X13_powerBits (k := 0) rfl) (by decide) ?_
  refine jv_istore_n (L' := [some (.ref (a0)), some (.int (0)), none]) (jv_dk t_X13_powerBits (k := 1) rfl) rfl (Nat.le_of_ble_eq_true rfl) rfl ?_
  refine jv_iconst (v := 0) (jv_dk t_X13_powerBits (k := 2) rfl) (by decide) ?_
  refine jv_istore_n (L' := [some (.ref (a0)), some (.int (0)), some (.int (0))]) (jv_dk t_X13_powerBits (k := 3) rfl) rfl (Nat.le_of_ble_eq_true rfl) rfl ?_
  refine o_f_X13_powerBits_h4 (fun y8 h7 => ?_) _ _ _ _ 
  show jv_O X M_X13_powerBits _ jeI 40 [none, some (.int (y8)), none] [] h7 _
  refine jv_iload_n (jv_dk t_X13_powerBits (k := 24) rfl) rfl rfl ?_
  exact jv_iret (ty := .int) (jv_dk t_X13_powerBits (k := 25) rfl) rfl rfl rfl
def t0_X13_deadBits : List (Nat × Instr × Nat) := [(0, .iconst 0, 1), (1, .istore_n 1, 1), (2, .iconst 0, 1), (3, .istore_n 2, 1), (4, .iload_n 2, 1), (5, .aload_n 0, 1), (6, .iconst 0, 1), (7, .invokevirtual 208, 3), (10, .if_icmp .ge 27, 3), (13, .iload_n 1, 1), (14, .aload_n 0, 1), (15, .iload_n 2, 1), (16, .invokevirtual 241, 3), (19, .ifCond .eq 9, 3), (22, .iconst 1, 1), (23, .iload_n 2, 1), (24, .ishl, 1), (25, .goto 4, 3), (28, .iconst 0, 1), (29, .ior, 1), (30, .istore_n 1, 1), (31, .iinc 2 1, 3), (34, .goto (-30), 3), (37, .iload_n 1, 1), (38, .ireturn, 1)]
theorem t_X13_deadBits : jv_dec cX13_deadBits t0_X13_deadBits = true := by decide +kernel
def M_X13_deadBits : jm := (yX13_deadBits, cX13_deadBits, 3, (some .int), 3, 65, [])
def f_X13_deadBits_h4 (K4 : Int32 → jh → Option (Int32 × jh)) (R4 : Nat → Int32 → Int32 → jh → Option (Int32 × jh)) (x0 : Nat) (x1 : Int32) (x2 : Int32) (h : jh) : Option (Int32 × jh) :=
  cV h x0 11 (f_X13_many x0 0 h) fun v1 h2 =>
  (if v1 ≤ x2 then
  K4 x1 h2
  else
  cV h2 x0 11 (f_X13_isDead x0 x2 h2) fun v4 h5 =>
  (if v4 = 0 then
  R4 x0 (x1 ||| 0) (x2 + 1) h5
  else
  R4 x0 (x1 ||| (1 <<< (x2 &&& 31))) (x2 + 1) h5))
theorem o_f_X13_deadBits_h4 {X : jx} {b0 : Nat × Nat} {K4 : Int32 → jh → Option (Int32 × jh)} (hK4 : ∀ (x1 : Int32) (h : jh), jv_O X M_X13_deadBits b0 jeI 37 [none, some (.int (x1)), none] [] h (K4 x1 h)) : ∀ (x0 : Nat) (x1 : Int32) (x2 : Int32) (h : jh), jv_O X M_X13_deadBits b0 jeI 4 [some (.ref (x0)), some (.int (x1)), some (.int (x2))] [] h (jlp3 (f_X13_deadBits_h4 K4) jfu x0 x1 x2 h) := by
  refine jlp3_ok (P := fun x0 x1 x2 h o => jv_O X M_X13_deadBits b0 jeI 4 [some (.ref (x0)), some (.int (x1)), some (.int (x2))] [] h o) (fun R4 hR4 => ?_) (fun _ _ _ _  => jv_none rfl) jfu
  intro x0 x1 x2 h
  unfold f_X13_deadBits_h4
  refine jv_iload_n (jv_dk t_X13_deadBits (k := 4) rfl) rfl rfl ?_
  refine jv_aload_n (jv_dk t_X13_deadBits (k := 5) rfl) rfl rfl (Or.inr ⟨_, rfl⟩) ?_
  refine jv_iconst (v := 0) (jv_dk t_X13_deadBits (k := 6) rfl) (by decide) ?_
  refine jv_callV (en' := jeI) (pv := jpI) (As := [.int (0)]) (S := [.int (x2)]) (jv_dk t_X13_deadBits (k := 7) rfl) (fun _ => rfl) (Or.inl lk_X13_208) me_X13_many mv_X13_many ⟨by decide, by decide⟩ rfl rfl rfl (Nat.le_of_ble_eq_true rfl) (P_X13_many X x0 0 h) (fun v1 h2 => ?_)
  show jv_O X M_X13_deadBits _ jeI 10 [some (.ref (x0)), some (.int (x1)), some (.int (x2))] [.int (v1), .int (x2)] h2 _
  refine jv_icmp_ge (tgt := 37) (jv_dk t_X13_deadBits (k := 8) rfl) rfl (fun c3 => ?_) (fun c3 => ?_)
  · refine jv_le_row (jv_le_n (jv_le_s (jv_le_n (jv_le_nil)))) ?_
    exact hK4 _ _ 
  · show jv_O _ _ _ _ 13 _ _ _ _
    refine jv_iload_n (jv_dk t_X13_deadBits (k := 9) rfl) rfl rfl ?_
    refine jv_aload_n (jv_dk t_X13_deadBits (k := 10) rfl) rfl rfl (Or.inr ⟨_, rfl⟩) ?_
    refine jv_iload_n (jv_dk t_X13_deadBits (k := 11) rfl) rfl rfl ?_
    refine jv_callV (en' := jeI) (pv := jpI) (As := [.int (x2)]) (S := [.int (x1)]) (jv_dk t_X13_deadBits (k := 12) rfl) (fun _ => rfl) (Or.inl lk_X13_241) me_X13_isDead mv_X13_isDead ⟨by decide, by decide⟩ rfl rfl rfl (Nat.le_of_ble_eq_true rfl) (P_X13_isDead X x0 x2 h2) (fun v4 h5 => ?_)
    show jv_O X M_X13_deadBits _ jeI 19 [some (.ref (x0)), some (.int (x1)), some (.int (x2))] [.int (v4), .int (x1)] h5 _
    refine jv_if_eq (tgt := 28) (jv_dk t_X13_deadBits (k := 13) rfl) rfl (fun c6 => ?_) (fun c6 => ?_)
    · refine jv_iconst (v := 0) (jv_dk t_X13_deadBits (k := 18) rfl) (by decide) ?_
      refine jv_ior (jv_dk t_X13_deadBits (k := 19) rfl) ?_
      refine jv_istore_n (L' := [some (.ref (x0)), some (.int (x1 ||| 0)), some (.int (x2))]) (jv_dk t_X13_deadBits (k := 20) rfl) rfl (Nat.le_of_ble_eq_true rfl) rfl ?_
      refine jv_iinc (v := 1) (L' := [some (.ref (x0)), some (.int (x1 ||| 0)), some (.int (x2 + 1))]) (jv_dk t_X13_deadBits (k := 21) rfl) rfl (by decide) rfl ?_
      refine jv_goto (tgt := 4) (jv_dk t_X13_deadBits (k := 22) rfl) rfl ?_
      exact hR4 _ _ _ _ 
    · show jv_O _ _ _ _ 22 _ _ _ _
      refine jv_iconst (v := 1) (jv_dk t_X13_deadBits (k := 14) rfl) (by decide) ?_
      refine jv_iload_n (jv_dk t_X13_deadBits (k := 15) rfl) rfl rfl ?_
      refine jv_ishl (jv_dk t_X13_deadBits (k := 16) rfl) ?_
      refine jv_goto (tgt := 29) (jv_dk t_X13_deadBits (k := 17) rfl) rfl ?_
      refine jv_ior (jv_dk t_X13_deadBits (k := 19) rfl) ?_
      refine jv_istore_n (L' := [some (.ref (x0)), some (.int (x1 ||| (1 <<< (x2 &&& 31)))), some (.int (x2))]) (jv_dk t_X13_deadBits (k := 20) rfl) rfl (Nat.le_of_ble_eq_true rfl) rfl ?_
      refine jv_iinc (v := 1) (L' := [some (.ref (x0)), some (.int (x1 ||| (1 <<< (x2 &&& 31)))), some (.int (x2 + 1))]) (jv_dk t_X13_deadBits (k := 21) rfl) rfl (by decide) rfl ?_
      refine jv_goto (tgt := 4) (jv_dk t_X13_deadBits (k := 22) rfl) rfl ?_
      exact hR4 _ _ _ _ 
def f_X13_deadBits (a0 : Nat) (h : jh) : Option (Int32 × jh) :=
  jlp3 (f_X13_deadBits_h4 (fun y8 h7 =>
  some (y8, h7))) jfu a0 0 0 h
theorem P_X13_deadBits (X : jx) (a0 : Nat) (h : jh) : jv_P X M_X13_deadBits jeI [.ref (a0)] h (f_X13_deadBits a0 h) := by
  refine jv_P.of (by decide) rfl (by simp [Value.category]) (Nat.le_of_ble_eq_true rfl) ?_
  show jv_O X M_X13_deadBits (h.1, h.2.1) jeI 0 [some (.ref (a0)), none, none] [] h (f_X13_deadBits a0 h)
  unfold f_X13_deadBits
  refine jv_iconst (v := 0) (jv_dk t_X13_deadBits (k := 0) rfl) (by decide) ?_
  refine jv_istore_n (L' := [some (.ref (a0)), some (.int (0)), none]) (jv_dk t_X13_deadBits (k := 1) rfl) rfl (Nat.le_of_ble_eq_true rfl) rfl ?_
  refine jv_iconst (v := 0) (jv_dk t_X13_deadBits (k := 2) rfl) (by decide) ?_
  refine jv_istore_n (L' := [some (.ref (a0)), some (.int (0)), some (.int (0))]) (jv_dk t_X13_deadBits (k := 3) rfl) rfl (Nat.le_of_ble_eq_true rfl) rfl ?_
  refine o_f_X13_deadBits_h4 (fun y8 h7 => ?_) _ _ _ _ 
  show jv_O X M_X13_deadBits _ jeI 37 [none, some (.int (y8)), none] [] h7 _
  refine jv_iload_n (jv_dk t_X13_deadBits (k := 23) rfl) rfl rfl ?_
  exact jv_iret (ty := .int) (jv_dk t_X13_deadBits (k := 24) rfl) rfl rfl rfl
def t0_X13_count : List (Nat × Instr × Nat) := [(0, .aload_n 0, 1), (1, .iconst 0, 1), (2, .putfield 96, 3), (5, .iload_n 1, 1), (6, .tableswitch 122 0 12 #[66, 71, 79, 79, 79, 87, 92, 97, 102, 107, 112, 112, 112], 66), (72, .aload_n 0, 1), (73, .invokevirtual 336, 3), (76, .ireturn, 1), (77, .aload_n 0, 1), (78, .invokevirtual 336, 3), (81, .invokestatic 339, 3), (84, .ireturn, 1), (85, .aload_n 0, 1), (86, .iload_n 1, 1), (87, .iconst 2, 1), (88, .isub, 1), (89, .invokevirtual 208, 3), (92, .ireturn, 1), (93, .aload_n 0, 1), (94, .invokevirtual 344, 3), (97, .ireturn, 1), (98, .aload_n 0, 1), (99, .invokevirtual 347, 3), (102, .ireturn, 1), (103, .aload_n 0, 1), (104, .getfield 195, 3), (107, .ireturn, 1), (108, .aload_n 0, 1), (109, .getfield 198, 3), (112, .ireturn, 1), (113, .aload_n 0, 1), (114, .getfield 103, 3), (117, .ireturn, 1), (118, .aload_n 0, 1), (119, .getfield 41, 3), (122, .iload_n 1, 1), (123, .bipush 10, 2), (125, .isub, 1), (126, .iaload, 1), (127, .ireturn, 1), (128, .aload_n 0, 1), (129, .iconst 1, 1), (130, .invokevirtual 185, 3), (133, .ireturn, 1)]
theorem t_X13_count : jv_dec cX13_count t0_X13_count = true := by decide +kernel
def M_X13_count : jm := (yX13_count, cX13_count, 2, (some .int), 4, 87, [])
theorem lk_X13_347 : Cond.methodLink RX13 347 M_X13_powerBits.1 ∈ lw_tbl := (jv_at 1767 (by decide +kernel))
set_option maxRecDepth 20000 in
theorem me_X13_powerBits : jv_me M_X13_powerBits 0 := ⟨(jv_in7 (List.mem_of_getElem? (i := 170) rfl)), (jv_at 172 (by decide +kernel)), ⟨by decide, by decide⟩, by decide +kernel⟩
theorem mv_X13_powerBits : jv_mv M_X13_powerBits := ⟨(jv_at 1769 (by decide +kernel)), (jv_at 145 (by decide +kernel))⟩
theorem lk_X13_344 : Cond.methodLink RX13 344 M_X13_deadBits.1 ∈ lw_tbl := (jv_at 1763 (by decide +kernel))
set_option maxRecDepth 20000 in
theorem me_X13_deadBits : jv_me M_X13_deadBits 0 := ⟨(jv_in7 (List.mem_of_getElem? (i := 166) rfl)), (jv_at 172 (by decide +kernel)), ⟨by decide, by decide⟩, by decide +kernel⟩
theorem mv_X13_deadBits : jv_mv M_X13_deadBits := ⟨(jv_at 1765 (by decide +kernel)), (jv_at 144 (by decide +kernel))⟩
theorem lk_X13_336 : Cond.methodLink RX13 336 M_X13_thereBits.1 ∈ lw_tbl := (jv_at 1758 (by decide +kernel))
set_option maxRecDepth 20000 in
theorem me_X13_thereBits : jv_me M_X13_thereBits 0 := ⟨(jv_in7 (List.mem_of_getElem? (i := 161) rfl)), (jv_at 172 (by decide +kernel)), ⟨by decide, by decide⟩, by decide +kernel⟩
theorem lk_X13_339 : Cond.methodLink RX13 339 M_J6_bitCount_0f7a4.1 ∈ lw_tbl := (jv_at 1762 (by decide +kernel))
theorem mv_X13_thereBits : jv_mv M_X13_thereBits := ⟨(jv_at 1760 (by decide +kernel)), (jv_at 143 (by decide +kernel))⟩
def f_X13_count_b118 (x0 : Nat) (x1 : Int32) (h : jh) : Option (Int32 × jh) :=
  gR h x0 11 3 fun v17 =>
  aI h v17 (x1 - 10) fun v18 =>
  some (v18, h)
theorem o_f_X13_count_b118 {X : jx} {b0 : Nat × Nat} (x0 : Nat) (x1 : Int32) (h : jh) : jv_O X M_X13_count b0 jeI 118 [some (.ref (x0)), some (.int (x1))] [] h (f_X13_count_b118 x0 x1 h) := by
  unfold f_X13_count_b118
  refine jv_aload_n (jv_dk t_X13_count (k := 33) rfl) rfl rfl (Or.inr ⟨_, rfl⟩) ?_
  refine jv_gR (jv_dk t_X13_count (k := 34) rfl) fl_X13_41 (fun v17 => ?_)
  refine jv_iload_n (jv_dk t_X13_count (k := 35) rfl) rfl rfl ?_
  refine jv_bipush (v := 10) (jv_dk t_X13_count (k := 36) rfl) (by decide) ?_
  refine jv_isub (jv_dk t_X13_count (k := 37) rfl) ?_
  refine jv_iaload (jv_dk t_X13_count (k := 38) rfl) (fun v18 => ?_)
  exact jv_iret (ty := .int) (jv_dk t_X13_count (k := 39) rfl) rfl rfl rfl
def f_X13_count_b85 (x0 : Nat) (x1 : Int32) (h : jh) : Option (Int32 × jh) :=
  cV h x0 11 (f_X13_many x0 (x1 - 2) h) fun v26 h27 =>
  some (v26, h27)
theorem o_f_X13_count_b85 {X : jx} {b0 : Nat × Nat} (x0 : Nat) (x1 : Int32) (h : jh) : jv_O X M_X13_count b0 jeI 85 [some (.ref (x0)), some (.int (x1))] [] h (f_X13_count_b85 x0 x1 h) := by
  unfold f_X13_count_b85
  refine jv_aload_n (jv_dk t_X13_count (k := 12) rfl) rfl rfl (Or.inr ⟨_, rfl⟩) ?_
  refine jv_iload_n (jv_dk t_X13_count (k := 13) rfl) rfl rfl ?_
  refine jv_iconst (v := 2) (jv_dk t_X13_count (k := 14) rfl) (by decide) ?_
  refine jv_isub (jv_dk t_X13_count (k := 15) rfl) ?_
  refine jv_callV (en' := jeI) (pv := jpI) (As := [.int (x1 - 2)]) (S := []) (jv_dk t_X13_count (k := 16) rfl) (fun _ => rfl) (Or.inl lk_X13_208) me_X13_many mv_X13_many ⟨by decide, by decide⟩ rfl rfl rfl (Nat.le_of_ble_eq_true rfl) (P_X13_many X x0 (x1 - 2) h) (fun v26 h27 => ?_)
  show jv_O X M_X13_count _ jeI 92 [some (.ref (x0)), some (.int (x1))] [.int (v26)] h27 _
  exact jv_iret (ty := .int) (jv_dk t_X13_count (k := 17) rfl) rfl rfl rfl
def f_X13_count (a0 : Nat) (a1 : Int32) (h : jh) : Option (Int32 × jh) :=
  pV h a0 11 1 (.int (0)) fun h1 =>
  (if a1 = 0 then
  cV h1 a0 11 (f_X13_thereBits a0 h1) fun v32 h33 =>
  some (v32, h33)
  else
  (if a1 = 1 then
  cV h1 a0 11 (f_X13_thereBits a0 h1) fun v28 h29 =>
  bd (f_J6_bitCount_0f7a4 v28 h29) fun v30 h31 =>
  some (v30, h31)
  else
  (if a1 = 2 then
  f_X13_count_b85 a0 a1 h1
  else
  (if a1 = 3 then
  f_X13_count_b85 a0 a1 h1
  else
  (if a1 = 4 then
  f_X13_count_b85 a0 a1 h1
  else
  (if a1 = 5 then
  cV h1 a0 11 (f_X13_deadBits a0 h1) fun v24 h25 =>
  some (v24, h25)
  else
  (if a1 = 6 then
  cV h1 a0 11 (f_X13_powerBits a0 h1) fun v22 h23 =>
  some (v22, h23)
  else
  (if a1 = 7 then
  gI h1 a0 11 18 fun v21 =>
  some (v21, h1)
  else
  (if a1 = 8 then
  gI h1 a0 11 22 fun v20 =>
  some (v20, h1)
  else
  (if a1 = 9 then
  gI h1 a0 11 5 fun v19 =>
  some (v19, h1)
  else
  (if a1 = 10 then
  f_X13_count_b118 a0 a1 h1
  else
  (if a1 = 11 then
  f_X13_count_b118 a0 a1 h1
  else
  (if a1 = 12 then
  f_X13_count_b118 a0 a1 h1
  else
  cV h1 a0 11 (f_X13_fail a0 1 h1) fun v15 h16 =>
  some (v15, h16))))))))))))))
theorem P_X13_count (X : jx) (a0 : Nat) (a1 : Int32) (h : jh) : jv_P X M_X13_count jeI [.ref (a0), .int (a1)] h (f_X13_count a0 a1 h) := by
  refine jv_P.of (by decide) rfl (by simp [Value.category]) (Nat.le_of_ble_eq_true rfl) ?_
  show jv_O X M_X13_count (h.1, h.2.1) jeI 0 [some (.ref (a0)), some (.int (a1))] [] h (f_X13_count a0 a1 h)
  unfold f_X13_count
  refine jv_aload_n (jv_dk t_X13_count (k := 0) rfl) rfl rfl (Or.inr ⟨_, rfl⟩) ?_
  refine jv_iconst (v := 0) (jv_dk t_X13_count (k := 1) rfl) (by decide) ?_
  refine jv_pV (jv_dk t_X13_count (k := 2) rfl) fl_X13_96 kX13 (Or.inl rfl) rfl rfl rfl (fun h1 => ?_)
  refine jv_iload_n (jv_dk t_X13_count (k := 3) rfl) rfl rfl ?_
  by_cases c2 : a1 = 0
  · rw [if_pos c2]
    refine jv_tbl (tgt := 72) (jv_dk t_X13_count (k := 4) rfl) (by rw [c2] <;> decide) (by rw [c2] <;> decide) (by rw [c2] <;> rfl) rfl ?_
    refine jv_aload_n (jv_dk t_X13_count (k := 5) rfl) rfl rfl (Or.inr ⟨_, rfl⟩) ?_
    refine jv_callV (en' := jeI) (pv := jpI) (As := []) (S := []) (jv_dk t_X13_count (k := 6) rfl) (fun _ => rfl) (Or.inl lk_X13_336) me_X13_thereBits mv_X13_thereBits ⟨by decide, by decide⟩ rfl rfl rfl (Nat.le_of_ble_eq_true rfl) (P_X13_thereBits X a0 h1) (fun v32 h33 => ?_)
    show jv_O X M_X13_count _ jeI 76 [some (.ref (a0)), some (.int (a1))] [.int (v32)] h33 _
    exact jv_iret (ty := .int) (jv_dk t_X13_count (k := 7) rfl) rfl rfl rfl
  rw [if_neg c2]
  by_cases c3 : a1 = 1
  · rw [if_pos c3]
    refine jv_tbl (tgt := 77) (jv_dk t_X13_count (k := 4) rfl) (by rw [c3] <;> decide) (by rw [c3] <;> decide) (by rw [c3] <;> rfl) rfl ?_
    refine jv_aload_n (jv_dk t_X13_count (k := 8) rfl) rfl rfl (Or.inr ⟨_, rfl⟩) ?_
    refine jv_callV (en' := jeI) (pv := jpI) (As := []) (S := []) (jv_dk t_X13_count (k := 9) rfl) (fun _ => rfl) (Or.inl lk_X13_336) me_X13_thereBits mv_X13_thereBits ⟨by decide, by decide⟩ rfl rfl rfl (Nat.le_of_ble_eq_true rfl) (P_X13_thereBits X a0 h1) (fun v28 h29 => ?_)
    show jv_O X M_X13_count _ jeI 81 [some (.ref (a0)), some (.int (a1))] [.int (v28)] h29 _
    refine jv_callS (en' := jeI) (pv := jpI) (As := [.int (v28)]) (S := []) (jv_dk t_X13_count (k := 10) rfl) (fun _ => rfl) (Or.inl lk_X13_339) me_J6_bitCount_0f7a4 ms_J6_bitCount_0f7a4 ⟨by decide, by decide⟩ rfl rfl (Nat.le_of_ble_eq_true rfl) (P_J6_bitCount_0f7a4 X v28 h29) (fun v30 h31 => ?_)
    show jv_O X M_X13_count _ jeI 84 [some (.ref (a0)), some (.int (a1))] [.int (v30)] h31 _
    exact jv_iret (ty := .int) (jv_dk t_X13_count (k := 11) rfl) rfl rfl rfl
  rw [if_neg c3]
  by_cases c4 : a1 = 2
  · rw [if_pos c4]
    refine jv_tbl (tgt := 85) (jv_dk t_X13_count (k := 4) rfl) (by rw [c4] <;> decide) (by rw [c4] <;> decide) (by rw [c4] <;> rfl) rfl ?_
    exact o_f_X13_count_b85 _ _ _ 
  rw [if_neg c4]
  by_cases c5 : a1 = 3
  · rw [if_pos c5]
    refine jv_tbl (tgt := 85) (jv_dk t_X13_count (k := 4) rfl) (by rw [c5] <;> decide) (by rw [c5] <;> decide) (by rw [c5] <;> rfl) rfl ?_
    exact o_f_X13_count_b85 _ _ _ 
  rw [if_neg c5]
  by_cases c6 : a1 = 4
  · rw [if_pos c6]
    refine jv_tbl (tgt := 85) (jv_dk t_X13_count (k := 4) rfl) (by rw [c6] <;> decide) (by rw [c6] <;> decide) (by rw [c6] <;> rfl) rfl ?_
    exact o_f_X13_count_b85 _ _ _ 
  rw [if_neg c6]
  by_cases c7 : a1 = 5
  · rw [if_pos c7]
    refine jv_tbl (tgt := 93) (jv_dk t_X13_count (k := 4) rfl) (by rw [c7] <;> decide) (by rw [c7] <;> decide) (by rw [c7] <;> rfl) rfl ?_
    refine jv_aload_n (jv_dk t_X13_count (k := 18) rfl) rfl rfl (Or.inr ⟨_, rfl⟩) ?_
    refine jv_callV (en' := jeI) (pv := jpI) (As := []) (S := []) (jv_dk t_X13_count (k := 19) rfl) (fun _ => rfl) (Or.inl lk_X13_344) me_X13_deadBits mv_X13_deadBits ⟨by decide, by decide⟩ rfl rfl rfl (Nat.le_of_ble_eq_true rfl) (P_X13_deadBits X a0 h1) (fun v24 h25 => ?_)
    show jv_O X M_X13_count _ jeI 97 [some (.ref (a0)), some (.int (a1))] [.int (v24)] h25 _
    exact jv_iret (ty := .int) (jv_dk t_X13_count (k := 20) rfl) rfl rfl rfl
  rw [if_neg c7]
  by_cases c8 : a1 = 6
  · rw [if_pos c8]
    refine jv_tbl (tgt := 98) (jv_dk t_X13_count (k := 4) rfl) (by rw [c8] <;> decide) (by rw [c8] <;> decide) (by rw [c8] <;> rfl) rfl ?_
    refine jv_aload_n (jv_dk t_X13_count (k := 21) rfl) rfl rfl (Or.inr ⟨_, rfl⟩) ?_
    refine jv_callV (en' := jeI) (pv := jpI) (As := []) (S := []) (jv_dk t_X13_count (k := 22) rfl) (fun _ => rfl) (Or.inl lk_X13_347) me_X13_powerBits mv_X13_powerBits ⟨by decide, by decide⟩ rfl rfl rfl (Nat.le_of_ble_eq_true rfl) (P_X13_powerBits X a0 h1) (fun v22 h23 => ?_)
    show jv_O X M_X13_count _ jeI 102 [some (.ref (a0)), some (.int (a1))] [.int (v22)] h23 _
    exact jv_iret (ty := .int) (jv_dk t_X13_count (k := 23) rfl) rfl rfl rfl
  rw [if_neg c8]
  by_cases c9 : a1 = 7
  · rw [if_pos c9]
    refine jv_tbl (tgt := 103) (jv_dk t_X13_count (k := 4) rfl) (by rw [c9] <;> decide) (by rw [c9] <;> decide) (by rw [c9] <;> rfl) rfl ?_
    refine jv_aload_n (jv_dk t_X13_count (k := 24) rfl) rfl rfl (Or.inr ⟨_, rfl⟩) ?_
    refine jv_gI (jv_dk t_X13_count (k := 25) rfl) fl_X13_195 (fun v21 => ?_)
    exact jv_iret (ty := .int) (jv_dk t_X13_count (k := 26) rfl) rfl rfl rfl
  rw [if_neg c9]
  by_cases c10 : a1 = 8
  · rw [if_pos c10]
    refine jv_tbl (tgt := 108) (jv_dk t_X13_count (k := 4) rfl) (by rw [c10] <;> decide) (by rw [c10] <;> decide) (by rw [c10] <;> rfl) rfl ?_
    refine jv_aload_n (jv_dk t_X13_count (k := 27) rfl) rfl rfl (Or.inr ⟨_, rfl⟩) ?_
    refine jv_gI (jv_dk t_X13_count (k := 28) rfl) fl_X13_198 (fun v20 => ?_)
    exact jv_iret (ty := .int) (jv_dk t_X13_count (k := 29) rfl) rfl rfl rfl
  rw [if_neg c10]
  by_cases c11 : a1 = 9
  · rw [if_pos c11]
    refine jv_tbl (tgt := 113) (jv_dk t_X13_count (k := 4) rfl) (by rw [c11] <;> decide) (by rw [c11] <;> decide) (by rw [c11] <;> rfl) rfl ?_
    refine jv_aload_n (jv_dk t_X13_count (k := 30) rfl) rfl rfl (Or.inr ⟨_, rfl⟩) ?_
    refine jv_gI (jv_dk t_X13_count (k := 31) rfl) fl_X13_103 (fun v19 => ?_)
    exact jv_iret (ty := .int) (jv_dk t_X13_count (k := 32) rfl) rfl rfl rfl
  rw [if_neg c11]
  by_cases c12 : a1 = 10
  · rw [if_pos c12]
    refine jv_tbl (tgt := 118) (jv_dk t_X13_count (k := 4) rfl) (by rw [c12] <;> decide) (by rw [c12] <;> decide) (by rw [c12] <;> rfl) rfl ?_
    exact o_f_X13_count_b118 _ _ _ 
  rw [if_neg c12]
  by_cases c13 : a1 = 11
  · rw [if_pos c13]
    refine jv_tbl (tgt := 118) (jv_dk t_X13_count (k := 4) rfl) (by rw [c13] <;> decide) (by rw [c13] <;> decide) (by rw [c13] <;> rfl) rfl ?_
    exact o_f_X13_count_b118 _ _ _ 
  rw [if_neg c13]
  by_cases c14 : a1 = 12
  · rw [if_pos c14]
    refine jv_tbl (tgt := 118) (jv_dk t_X13_count (k := 4) rfl) (by rw [c14] <;> decide) (by rw [c14] <;> decide) (by rw [c14] <;> rfl) rfl ?_
    exact o_f_X13_count_b118 _ _ _ 
  rw [if_neg c14]
  have e_c2 := jv_ne (x := a1) (k := 0) (by decide) (by decide) c2
  have e_c3 := jv_ne (x := a1) (k := 1) (by decide) (by decide) c3
  have e_c4 := jv_ne (x := a1) (k := 2) (by decide) (by decide) c4
  have e_c5 := jv_ne (x := a1) (k := 3) (by decide) (by decide) c5
  have e_c6 := jv_ne (x := a1) (k := 4) (by decide) (by decide) c6
  have e_c7 := jv_ne (x := a1) (k := 5) (by decide) (by decide) c7
  have e_c8 := jv_ne (x := a1) (k := 6) (by decide) (by decide) c8
  have e_c9 := jv_ne (x := a1) (k := 7) (by decide) (by decide) c9
  have e_c10 := jv_ne (x := a1) (k := 8) (by decide) (by decide) c10
  have e_c11 := jv_ne (x := a1) (k := 9) (by decide) (by decide) c11
  have e_c12 := jv_ne (x := a1) (k := 10) (by decide) (by decide) c12
  have e_c13 := jv_ne (x := a1) (k := 11) (by decide) (by decide) c13
  have e_c14 := jv_ne (x := a1) (k := 12) (by decide) (by decide) c14
  refine jv_tblOut (tgt := 128) (jv_dk t_X13_count (k := 4) rfl) (by omega) rfl ?_
  refine jv_aload_n (jv_dk t_X13_count (k := 40) rfl) rfl rfl (Or.inr ⟨_, rfl⟩) ?_
  refine jv_iconst (v := 1) (jv_dk t_X13_count (k := 41) rfl) (by decide) ?_
  refine jv_callV (en' := jeI) (pv := jpI) (As := [.int (1)]) (S := []) (jv_dk t_X13_count (k := 42) rfl) (fun _ => rfl) (Or.inl lk_X13_185) me_X13_fail mv_X13_fail ⟨by decide, by decide⟩ rfl rfl rfl (Nat.le_of_ble_eq_true rfl) (P_X13_fail X a0 1 h1) (fun v15 h16 => ?_)
  show jv_O X M_X13_count _ jeI 133 [some (.ref (a0)), some (.int (a1))] [.int (v15)] h16 _
  exact jv_iret (ty := .int) (jv_dk t_X13_count (k := 43) rfl) rfl rfl rfl
def t0_X13_process : List (Nat × Instr × Nat) := [(0, .aload_n 0, 1), (1, .iconst 0, 1), (2, .putfield 96, 3), (5, .aload_n 0, 1), (6, .iload_n 1, 1), (7, .invokevirtual 289, 3), (10, .ifCond .ne 9, 3), (13, .aload_n 0, 1), (14, .iconst 1, 1), (15, .invokevirtual 185, 3), (18, .ireturn, 1), (19, .iload_n 2, 1), (20, .tableswitch 125 0 9 #[56, 56, 56, 56, 56, 65, 77, 85, 103, 111], 56), (76, .aload_n 0, 1), (77, .iload_n 1, 1), (78, .iconst 1, 1), (79, .iload_n 2, 1), (80, .iadd, 1), (81, .invokevirtual 205, 3), (84, .ireturn, 1), (85, .aload_n 0, 1), (86, .iload_n 1, 1), (87, .aload_n 0, 1), (88, .iload_n 1, 1), (89, .iconst 2, 1), (90, .invokevirtual 205, 3), (93, .invokevirtual 214, 3), (96, .ireturn, 1), (97, .aload_n 0, 1), (98, .iload_n 1, 1), (99, .bipush 6, 2), (101, .invokevirtual 205, 3), (104, .ireturn, 1), (105, .aload_n 0, 1), (106, .aload_n 0, 1), (107, .iload_n 1, 1), (108, .iconst 3, 1), (109, .invokevirtual 205, 3), (112, .aload_n 0, 1), (113, .iload_n 1, 1), (114, .bipush 6, 2), (116, .invokevirtual 205, 3), (119, .invokevirtual 264, 3), (122, .ireturn, 1), (123, .aload_n 0, 1), (124, .iload_n 1, 1), (125, .bipush 7, 2), (127, .invokevirtual 205, 3), (130, .ireturn, 1), (131, .aload_n 0, 1), (132, .iload_n 1, 1), (133, .invokevirtual 286, 3), (136, .ifCond .eq 7, 3), (139, .iconst 1, 1), (140, .goto 4, 3), (143, .iconst 0, 1), (144, .ireturn, 1), (145, .aload_n 0, 1), (146, .iconst 1, 1), (147, .invokevirtual 185, 3), (150, .ireturn, 1)]
theorem t_X13_process : jv_dec cX13_process t0_X13_process = true := by decide +kernel
def M_X13_process : jm := (yX13_process, cX13_process, 3, (some .int), 4, 93, [])
def f_X13_process_b76 (x0 : Nat) (x1 : Int32) (x2 : Int32) (h : jh) : Option (Int32 × jh) :=
  cV h x0 11 (f_X13_of x0 x1 (1 + x2) h) fun v34 h35 =>
  some (v34, h35)
theorem o_f_X13_process_b76 {X : jx} {b0 : Nat × Nat} (x0 : Nat) (x1 : Int32) (x2 : Int32) (h : jh) : jv_O X M_X13_process b0 jeI 76 [some (.ref (x0)), some (.int (x1)), some (.int (x2))] [] h (f_X13_process_b76 x0 x1 x2 h) := by
  unfold f_X13_process_b76
  refine jv_aload_n (jv_dk t_X13_process (k := 13) rfl) rfl rfl (Or.inr ⟨_, rfl⟩) ?_
  refine jv_iload_n (jv_dk t_X13_process (k := 14) rfl) rfl rfl ?_
  refine jv_iconst (v := 1) (jv_dk t_X13_process (k := 15) rfl) (by decide) ?_
  refine jv_iload_n (jv_dk t_X13_process (k := 16) rfl) rfl rfl ?_
  refine jv_iadd (jv_dk t_X13_process (k := 17) rfl) ?_
  refine jv_callV (en' := jeI) (pv := jpI) (As := [.int (x1), .int (1 + x2)]) (S := []) (jv_dk t_X13_process (k := 18) rfl) (fun _ => rfl) (Or.inl lk_X13_205) me_X13_of mv_X13_of ⟨by decide, by decide⟩ rfl rfl rfl (Nat.le_of_ble_eq_true rfl) (P_X13_of X x0 x1 (1 + x2) h) (fun v34 h35 => ?_)
  show jv_O X M_X13_process _ jeI 84 [some (.ref (x0)), some (.int (x1)), some (.int (x2))] [.int (v34)] h35 _
  exact jv_iret (ty := .int) (jv_dk t_X13_process (k := 19) rfl) rfl rfl rfl
def f_X13_process (a0 : Nat) (a1 : Int32) (a2 : Int32) (h : jh) : Option (Int32 × jh) :=
  pV h a0 11 1 (.int (0)) fun h1 =>
  cV h1 a0 11 (f_X13_isThere a0 a1 h1) fun v2 h3 =>
  (if ¬ v2 = 0 then
  (if a2 = 0 then
  f_X13_process_b76 a0 a1 a2 h3
  else
  (if a2 = 1 then
  f_X13_process_b76 a0 a1 a2 h3
  else
  (if a2 = 2 then
  f_X13_process_b76 a0 a1 a2 h3
  else
  (if a2 = 3 then
  f_X13_process_b76 a0 a1 a2 h3
  else
  (if a2 = 4 then
  f_X13_process_b76 a0 a1 a2 h3
  else
  (if a2 = 5 then
  cV h3 a0 11 (f_X13_of a0 a1 2 h3) fun v30 h31 =>
  cV h31 a0 11 (f_X13_numberOf a0 a1 v30 h31) fun v32 h33 =>
  some (v32, h33)
  else
  (if a2 = 6 then
  cV h3 a0 11 (f_X13_of a0 a1 6 h3) fun v28 h29 =>
  some (v28, h29)
  else
  (if a2 = 7 then
  cV h3 a0 11 (f_X13_of a0 a1 3 h3) fun v22 h23 =>
  cV h23 a0 11 (f_X13_of a0 a1 6 h23) fun v24 h25 =>
  cV h25 a0 11 (f_X13_fromRoot a0 v22 v24 h25) fun v26 h27 =>
  some (v26, h27)
  else
  (if a2 = 8 then
  cV h3 a0 11 (f_X13_of a0 a1 7 h3) fun v20 h21 =>
  some (v20, h21)
  else
  (if a2 = 9 then
  cV h3 a0 11 (f_X13_isInit a0 a1 h3) fun v17 h18 =>
  (if v17 = 0 then
  some (0, h18)
  else
  some (1, h18))
  else
  cV h3 a0 11 (f_X13_fail a0 1 h3) fun v15 h16 =>
  some (v15, h16)))))))))))
  else
  cV h3 a0 11 (f_X13_fail a0 1 h3) fun v36 h37 =>
  some (v36, h37))
theorem P_X13_process (X : jx) (a0 : Nat) (a1 : Int32) (a2 : Int32) (h : jh) : jv_P X M_X13_process jeI [.ref (a0), .int (a1), .int (a2)] h (f_X13_process a0 a1 a2 h) := by
  refine jv_P.of (by decide) rfl (by simp [Value.category]) (Nat.le_of_ble_eq_true rfl) ?_
  show jv_O X M_X13_process (h.1, h.2.1) jeI 0 [some (.ref (a0)), some (.int (a1)), some (.int (a2))] [] h (f_X13_process a0 a1 a2 h)
  unfold f_X13_process
  refine jv_aload_n (jv_dk t_X13_process (k := 0) rfl) rfl rfl (Or.inr ⟨_, rfl⟩) ?_
  refine jv_iconst (v := 0) (jv_dk t_X13_process (k := 1) rfl) (by decide) ?_
  refine jv_pV (jv_dk t_X13_process (k := 2) rfl) fl_X13_96 kX13 (Or.inl rfl) rfl rfl rfl (fun h1 => ?_)
  refine jv_aload_n (jv_dk t_X13_process (k := 3) rfl) rfl rfl (Or.inr ⟨_, rfl⟩) ?_
  refine jv_iload_n (jv_dk t_X13_process (k := 4) rfl) rfl rfl ?_
  refine jv_callV (en' := jeI) (pv := jpI) (As := [.int (a1)]) (S := []) (jv_dk t_X13_process (k := 5) rfl) (fun _ => rfl) (Or.inl lk_X13_289) me_X13_isThere mv_X13_isThere ⟨by decide, by decide⟩ rfl rfl rfl (Nat.le_of_ble_eq_true rfl) (P_X13_isThere X a0 a1 h1) (fun v2 h3 => ?_)
  show jv_O X M_X13_process _ jeI 10 [some (.ref (a0)), some (.int (a1)), some (.int (a2))] [.int (v2)] h3 _
  refine jv_if_ne (tgt := 19) (jv_dk t_X13_process (k := 6) rfl) rfl (fun c4 => ?_) (fun c4 => ?_)
  · refine jv_iload_n (jv_dk t_X13_process (k := 11) rfl) rfl rfl ?_
    by_cases c5 : a2 = 0
    · rw [if_pos c5]
      refine jv_tbl (tgt := 76) (jv_dk t_X13_process (k := 12) rfl) (by rw [c5] <;> decide) (by rw [c5] <;> decide) (by rw [c5] <;> rfl) rfl ?_
      exact o_f_X13_process_b76 _ _ _ _ 
    rw [if_neg c5]
    by_cases c6 : a2 = 1
    · rw [if_pos c6]
      refine jv_tbl (tgt := 76) (jv_dk t_X13_process (k := 12) rfl) (by rw [c6] <;> decide) (by rw [c6] <;> decide) (by rw [c6] <;> rfl) rfl ?_
      exact o_f_X13_process_b76 _ _ _ _ 
    rw [if_neg c6]
    by_cases c7 : a2 = 2
    · rw [if_pos c7]
      refine jv_tbl (tgt := 76) (jv_dk t_X13_process (k := 12) rfl) (by rw [c7] <;> decide) (by rw [c7] <;> decide) (by rw [c7] <;> rfl) rfl ?_
      exact o_f_X13_process_b76 _ _ _ _ 
    rw [if_neg c7]
    by_cases c8 : a2 = 3
    · rw [if_pos c8]
      refine jv_tbl (tgt := 76) (jv_dk t_X13_process (k := 12) rfl) (by rw [c8] <;> decide) (by rw [c8] <;> decide) (by rw [c8] <;> rfl) rfl ?_
      exact o_f_X13_process_b76 _ _ _ _ 
    rw [if_neg c8]
    by_cases c9 : a2 = 4
    · rw [if_pos c9]
      refine jv_tbl (tgt := 76) (jv_dk t_X13_process (k := 12) rfl) (by rw [c9] <;> decide) (by rw [c9] <;> decide) (by rw [c9] <;> rfl) rfl ?_
      exact o_f_X13_process_b76 _ _ _ _ 
    rw [if_neg c9]
    by_cases c10 : a2 = 5
    · rw [if_pos c10]
      refine jv_tbl (tgt := 85) (jv_dk t_X13_process (k := 12) rfl) (by rw [c10] <;> decide) (by rw [c10] <;> decide) (by rw [c10] <;> rfl) rfl ?_
      refine jv_aload_n (jv_dk t_X13_process (k := 20) rfl) rfl rfl (Or.inr ⟨_, rfl⟩) ?_
      refine jv_iload_n (jv_dk t_X13_process (k := 21) rfl) rfl rfl ?_
      refine jv_aload_n (jv_dk t_X13_process (k := 22) rfl) rfl rfl (Or.inr ⟨_, rfl⟩) ?_
      refine jv_iload_n (jv_dk t_X13_process (k := 23) rfl) rfl rfl ?_
      refine jv_iconst (v := 2) (jv_dk t_X13_process (k := 24) rfl) (by decide) ?_
      refine jv_callV (en' := jeI) (pv := jpI) (As := [.int (a1), .int (2)]) (S := [.int (a1), .ref (a0)]) (jv_dk t_X13_process (k := 25) rfl) (fun _ => rfl) (Or.inl lk_X13_205) me_X13_of mv_X13_of ⟨by decide, by decide⟩ rfl rfl rfl (Nat.le_of_ble_eq_true rfl) (P_X13_of X a0 a1 2 h3) (fun v30 h31 => ?_)
      show jv_O X M_X13_process _ jeI 93 [some (.ref (a0)), some (.int (a1)), some (.int (a2))] [.int (v30), .int (a1), .ref (a0)] h31 _
      refine jv_callV (en' := jeI) (pv := jpI) (As := [.int (a1), .int (v30)]) (S := []) (jv_dk t_X13_process (k := 26) rfl) (fun _ => rfl) (Or.inl lk_X13_214) me_X13_numberOf mv_X13_numberOf ⟨by decide, by decide⟩ rfl rfl rfl (Nat.le_of_ble_eq_true rfl) (P_X13_numberOf X a0 a1 v30 h31) (fun v32 h33 => ?_)
      show jv_O X M_X13_process _ jeI 96 [some (.ref (a0)), some (.int (a1)), some (.int (a2))] [.int (v32)] h33 _
      exact jv_iret (ty := .int) (jv_dk t_X13_process (k := 27) rfl) rfl rfl rfl
    rw [if_neg c10]
    by_cases c11 : a2 = 6
    · rw [if_pos c11]
      refine jv_tbl (tgt := 97) (jv_dk t_X13_process (k := 12) rfl) (by rw [c11] <;> decide) (by rw [c11] <;> decide) (by rw [c11] <;> rfl) rfl ?_
      refine jv_aload_n (jv_dk t_X13_process (k := 28) rfl) rfl rfl (Or.inr ⟨_, rfl⟩) ?_
      refine jv_iload_n (jv_dk t_X13_process (k := 29) rfl) rfl rfl ?_
      refine jv_bipush (v := 6) (jv_dk t_X13_process (k := 30) rfl) (by decide) ?_
      refine jv_callV (en' := jeI) (pv := jpI) (As := [.int (a1), .int (6)]) (S := []) (jv_dk t_X13_process (k := 31) rfl) (fun _ => rfl) (Or.inl lk_X13_205) me_X13_of mv_X13_of ⟨by decide, by decide⟩ rfl rfl rfl (Nat.le_of_ble_eq_true rfl) (P_X13_of X a0 a1 6 h3) (fun v28 h29 => ?_)
      show jv_O X M_X13_process _ jeI 104 [some (.ref (a0)), some (.int (a1)), some (.int (a2))] [.int (v28)] h29 _
      exact jv_iret (ty := .int) (jv_dk t_X13_process (k := 32) rfl) rfl rfl rfl
    rw [if_neg c11]
    by_cases c12 : a2 = 7
    · rw [if_pos c12]
      refine jv_tbl (tgt := 105) (jv_dk t_X13_process (k := 12) rfl) (by rw [c12] <;> decide) (by rw [c12] <;> decide) (by rw [c12] <;> rfl) rfl ?_
      refine jv_aload_n (jv_dk t_X13_process (k := 33) rfl) rfl rfl (Or.inr ⟨_, rfl⟩) ?_
      refine jv_aload_n (jv_dk t_X13_process (k := 34) rfl) rfl rfl (Or.inr ⟨_, rfl⟩) ?_
      refine jv_iload_n (jv_dk t_X13_process (k := 35) rfl) rfl rfl ?_
      refine jv_iconst (v := 3) (jv_dk t_X13_process (k := 36) rfl) (by decide) ?_
      refine jv_callV (en' := jeI) (pv := jpI) (As := [.int (a1), .int (3)]) (S := [.ref (a0)]) (jv_dk t_X13_process (k := 37) rfl) (fun _ => rfl) (Or.inl lk_X13_205) me_X13_of mv_X13_of ⟨by decide, by decide⟩ rfl rfl rfl (Nat.le_of_ble_eq_true rfl) (P_X13_of X a0 a1 3 h3) (fun v22 h23 => ?_)
      show jv_O X M_X13_process _ jeI 112 [some (.ref (a0)), some (.int (a1)), some (.int (a2))] [.int (v22), .ref (a0)] h23 _
      refine jv_aload_n (jv_dk t_X13_process (k := 38) rfl) rfl rfl (Or.inr ⟨_, rfl⟩) ?_
      refine jv_iload_n (jv_dk t_X13_process (k := 39) rfl) rfl rfl ?_
      refine jv_bipush (v := 6) (jv_dk t_X13_process (k := 40) rfl) (by decide) ?_
      refine jv_callV (en' := jeI) (pv := jpI) (As := [.int (a1), .int (6)]) (S := [.int (v22), .ref (a0)]) (jv_dk t_X13_process (k := 41) rfl) (fun _ => rfl) (Or.inl lk_X13_205) me_X13_of mv_X13_of ⟨by decide, by decide⟩ rfl rfl rfl (Nat.le_of_ble_eq_true rfl) (P_X13_of X a0 a1 6 h23) (fun v24 h25 => ?_)
      show jv_O X M_X13_process _ jeI 119 [some (.ref (a0)), some (.int (a1)), some (.int (a2))] [.int (v24), .int (v22), .ref (a0)] h25 _
      refine jv_callV (en' := jeI) (pv := jpI) (As := [.int (v22), .int (v24)]) (S := []) (jv_dk t_X13_process (k := 42) rfl) (fun _ => rfl) (Or.inl lk_X13_264) me_X13_fromRoot mv_X13_fromRoot ⟨by decide, by decide⟩ rfl rfl rfl (Nat.le_of_ble_eq_true rfl) (P_X13_fromRoot X a0 v22 v24 h25) (fun v26 h27 => ?_)
      show jv_O X M_X13_process _ jeI 122 [some (.ref (a0)), some (.int (a1)), some (.int (a2))] [.int (v26)] h27 _
      exact jv_iret (ty := .int) (jv_dk t_X13_process (k := 43) rfl) rfl rfl rfl
    rw [if_neg c12]
    by_cases c13 : a2 = 8
    · rw [if_pos c13]
      refine jv_tbl (tgt := 123) (jv_dk t_X13_process (k := 12) rfl) (by rw [c13] <;> decide) (by rw [c13] <;> decide) (by rw [c13] <;> rfl) rfl ?_
      refine jv_aload_n (jv_dk t_X13_process (k := 44) rfl) rfl rfl (Or.inr ⟨_, rfl⟩) ?_
      refine jv_iload_n (jv_dk t_X13_process (k := 45) rfl) rfl rfl ?_
      refine jv_bipush (v := 7) (jv_dk t_X13_process (k := 46) rfl) (by decide) ?_
      refine jv_callV (en' := jeI) (pv := jpI) (As := [.int (a1), .int (7)]) (S := []) (jv_dk t_X13_process (k := 47) rfl) (fun _ => rfl) (Or.inl lk_X13_205) me_X13_of mv_X13_of ⟨by decide, by decide⟩ rfl rfl rfl (Nat.le_of_ble_eq_true rfl) (P_X13_of X a0 a1 7 h3) (fun v20 h21 => ?_)
      show jv_O X M_X13_process _ jeI 130 [some (.ref (a0)), some (.int (a1)), some (.int (a2))] [.int (v20)] h21 _
      exact jv_iret (ty := .int) (jv_dk t_X13_process (k := 48) rfl) rfl rfl rfl
    rw [if_neg c13]
    by_cases c14 : a2 = 9
    · rw [if_pos c14]
      refine jv_tbl (tgt := 131) (jv_dk t_X13_process (k := 12) rfl) (by rw [c14] <;> decide) (by rw [c14] <;> decide) (by rw [c14] <;> rfl) rfl ?_
      refine jv_aload_n (jv_dk t_X13_process (k := 49) rfl) rfl rfl (Or.inr ⟨_, rfl⟩) ?_
      refine jv_iload_n (jv_dk t_X13_process (k := 50) rfl) rfl rfl ?_
      refine jv_callV (en' := jeI) (pv := jpI) (As := [.int (a1)]) (S := []) (jv_dk t_X13_process (k := 51) rfl) (fun _ => rfl) (Or.inl lk_X13_286) me_X13_isInit mv_X13_isInit ⟨by decide, by decide⟩ rfl rfl rfl (Nat.le_of_ble_eq_true rfl) (P_X13_isInit X a0 a1 h3) (fun v17 h18 => ?_)
      show jv_O X M_X13_process _ jeI 136 [some (.ref (a0)), some (.int (a1)), some (.int (a2))] [.int (v17)] h18 _
      refine jv_if_eq (tgt := 143) (jv_dk t_X13_process (k := 52) rfl) rfl (fun c19 => ?_) (fun c19 => ?_)
      · refine jv_iconst (v := 0) (jv_dk t_X13_process (k := 55) rfl) (by decide) ?_
        exact jv_iret (ty := .int) (jv_dk t_X13_process (k := 56) rfl) rfl rfl rfl
      · show jv_O _ _ _ _ 139 _ _ _ _
        refine jv_iconst (v := 1) (jv_dk t_X13_process (k := 53) rfl) (by decide) ?_
        refine jv_goto (tgt := 144) (jv_dk t_X13_process (k := 54) rfl) rfl ?_
        exact jv_iret (ty := .int) (jv_dk t_X13_process (k := 56) rfl) rfl rfl rfl
    rw [if_neg c14]
    have e_c5 := jv_ne (x := a2) (k := 0) (by decide) (by decide) c5
    have e_c6 := jv_ne (x := a2) (k := 1) (by decide) (by decide) c6
    have e_c7 := jv_ne (x := a2) (k := 2) (by decide) (by decide) c7
    have e_c8 := jv_ne (x := a2) (k := 3) (by decide) (by decide) c8
    have e_c9 := jv_ne (x := a2) (k := 4) (by decide) (by decide) c9
    have e_c10 := jv_ne (x := a2) (k := 5) (by decide) (by decide) c10
    have e_c11 := jv_ne (x := a2) (k := 6) (by decide) (by decide) c11
    have e_c12 := jv_ne (x := a2) (k := 7) (by decide) (by decide) c12
    have e_c13 := jv_ne (x := a2) (k := 8) (by decide) (by decide) c13
    have e_c14 := jv_ne (x := a2) (k := 9) (by decide) (by decide) c14
    refine jv_tblOut (tgt := 145) (jv_dk t_X13_process (k := 12) rfl) (by omega) rfl ?_
    refine jv_aload_n (jv_dk t_X13_process (k := 57) rfl) rfl rfl (Or.inr ⟨_, rfl⟩) ?_
    refine jv_iconst (v := 1) (jv_dk t_X13_process (k := 58) rfl) (by decide) ?_
    refine jv_callV (en' := jeI) (pv := jpI) (As := [.int (1)]) (S := []) (jv_dk t_X13_process (k := 59) rfl) (fun _ => rfl) (Or.inl lk_X13_185) me_X13_fail mv_X13_fail ⟨by decide, by decide⟩ rfl rfl rfl (Nat.le_of_ble_eq_true rfl) (P_X13_fail X a0 1 h3) (fun v15 h16 => ?_)
    show jv_O X M_X13_process _ jeI 150 [some (.ref (a0)), some (.int (a1)), some (.int (a2))] [.int (v15)] h16 _
    exact jv_iret (ty := .int) (jv_dk t_X13_process (k := 60) rfl) rfl rfl rfl
  · show jv_O _ _ _ _ 13 _ _ _ _
    refine jv_aload_n (jv_dk t_X13_process (k := 7) rfl) rfl rfl (Or.inr ⟨_, rfl⟩) ?_
    refine jv_iconst (v := 1) (jv_dk t_X13_process (k := 8) rfl) (by decide) ?_
    refine jv_callV (en' := jeI) (pv := jpI) (As := [.int (1)]) (S := []) (jv_dk t_X13_process (k := 9) rfl) (fun _ => rfl) (Or.inl lk_X13_185) me_X13_fail mv_X13_fail ⟨by decide, by decide⟩ rfl rfl rfl (Nat.le_of_ble_eq_true rfl) (P_X13_fail X a0 1 h3) (fun v36 h37 => ?_)
    show jv_O X M_X13_process _ jeI 18 [some (.ref (a0)), some (.int (a1)), some (.int (a2))] [.int (v36)] h37 _
    exact jv_iret (ty := .int) (jv_dk t_X13_process (k := 10) rfl) rfl rfl rfl
def t0_X13_inSpace : List (Nat × Instr × Nat) := [(0, .iconst 0, 1), (1, .istore_n 3, 1), (2, .iconst 0, 1), (3, .istore 4, 2), (5, .iload 4, 2), (7, .bipush 16, 2), (9, .if_icmp .ge 54, 3), (12, .iload_n 3, 1), (13, .aload_n 0, 1), (14, .iload 4, 2), (16, .invokevirtual 289, 3), (19, .ifCond .eq 35, 3), (22, .aload_n 0, 1), (23, .iload 4, 2), (25, .iload_n 1, 1), (26, .ifCond .ne 7, 3), (29, .iconst 2, 1), (30, .goto 13, 3), (33, .iload_n 1, 1), (34, .iconst 1, 1), (35, .if_icmp .ne 7, 3), (38, .iconst 3, 1), (39, .goto 4, 3), (42, .iconst 4, 1), (43, .invokevirtual 205, 3), (46, .iload_n 2, 1), (47, .if_icmp .ne 7, 3), (50, .iconst 1, 1), (51, .goto 4, 3), (54, .iconst 0, 1), (55, .iadd, 1), (56, .istore_n 3, 1), (57, .iinc 4 1, 3), (60, .goto (-55), 3), (63, .iload_n 3, 1), (64, .ireturn, 1)]
theorem t_X13_inSpace : jv_dec cX13_inSpace t0_X13_inSpace = true := by decide +kernel
def M_X13_inSpace : jm := (yX13_inSpace, cX13_inSpace, 5, (some .int), 2, 43, [])
def f_X13_inSpace_b43 (R5 : Nat → Int32 → Int32 → Int32 → Int32 → jh → Option (Int32 × jh)) (K5 : Int32 → jh → Option (Int32 × jh)) (x0 : Nat) (x1 : Int32) (x2 : Int32) (x4 : Int32) (s0 : Int32) (s1 : Int32) (s2 : Nat) (s3 : Int32) (h : jh) : Option (Int32 × jh) :=
  cV h s2 11 (f_X13_of s2 s1 s0 h) fun v7 h8 =>
  (if ¬ v7 = x2 then
  R5 x0 x1 x2 (s3 + 0) (x4 + 1) h8
  else
  R5 x0 x1 x2 (s3 + 1) (x4 + 1) h8)
theorem o_f_X13_inSpace_b43 {X : jx} {b0 : Nat × Nat} {R5 : Nat → Int32 → Int32 → Int32 → Int32 → jh → Option (Int32 × jh)} {K5 : Int32 → jh → Option (Int32 × jh)} (hR5 : ∀ (x0 : Nat) (x1 : Int32) (x2 : Int32) (x3 : Int32) (x4 : Int32) (h : jh), jv_O X M_X13_inSpace b0 jeI 5 [some (.ref (x0)), some (.int (x1)), some (.int (x2)), some (.int (x3)), some (.int (x4))] [] h (R5 x0 x1 x2 x3 x4 h)) (hK5 : ∀ (x3 : Int32) (h : jh), jv_O X M_X13_inSpace b0 jeI 63 [none, none, none, some (.int (x3)), none] [] h (K5 x3 h)) (x0 : Nat) (x1 : Int32) (x2 : Int32) (x4 : Int32) (s0 : Int32) (s1 : Int32) (s2 : Nat) (s3 : Int32) (h : jh) : jv_O X M_X13_inSpace b0 jeI 43 [some (.ref (x0)), some (.int (x1)), some (.int (x2)), none, some (.int (x4))] [.int (s0), .int (s1), .ref (s2), .int (s3)] h (f_X13_inSpace_b43 R5 K5 x0 x1 x2 x4 s0 s1 s2 s3 h) := by
  unfold f_X13_inSpace_b43
  refine jv_callV (en' := jeI) (pv := jpI) (As := [.int (s1), .int (s0)]) (S := [.int (s3)]) (jv_dk t_X13_inSpace (k := 24) rfl) (fun _ => rfl) (Or.inl lk_X13_205) me_X13_of mv_X13_of ⟨by decide, by decide⟩ rfl rfl rfl (Nat.le_of_ble_eq_true rfl) (P_X13_of X s2 s1 s0 h) (fun v7 h8 => ?_)
  show jv_O X M_X13_inSpace _ jeI 46 [some (.ref (x0)), some (.int (x1)), some (.int (x2)), none, some (.int (x4))] [.int (v7), .int (s3)] h8 _
  refine jv_iload_n (jv_dk t_X13_inSpace (k := 25) rfl) rfl rfl ?_
  refine jv_icmp_ne (tgt := 54) (jv_dk t_X13_inSpace (k := 26) rfl) rfl (fun c9 => ?_) (fun c9 => ?_)
  · refine jv_iconst (v := 0) (jv_dk t_X13_inSpace (k := 29) rfl) (by decide) ?_
    refine jv_iadd (jv_dk t_X13_inSpace (k := 30) rfl) ?_
    refine jv_istore_n (L' := [some (.ref (x0)), some (.int (x1)), some (.int (x2)), some (.int (s3 + 0)), some (.int (x4))]) (jv_dk t_X13_inSpace (k := 31) rfl) rfl (Nat.le_of_ble_eq_true rfl) rfl ?_
    refine jv_iinc (v := 1) (L' := [some (.ref (x0)), some (.int (x1)), some (.int (x2)), some (.int (s3 + 0)), some (.int (x4 + 1))]) (jv_dk t_X13_inSpace (k := 32) rfl) rfl (by decide) rfl ?_
    refine jv_goto (tgt := 5) (jv_dk t_X13_inSpace (k := 33) rfl) rfl ?_
    exact hR5 _ _ _ _ _ _ 
  · show jv_O _ _ _ _ 50 _ _ _ _
    refine jv_iconst (v := 1) (jv_dk t_X13_inSpace (k := 27) rfl) (by decide) ?_
    refine jv_goto (tgt := 55) (jv_dk t_X13_inSpace (k := 28) rfl) rfl ?_
    refine jv_iadd (jv_dk t_X13_inSpace (k := 30) rfl) ?_
    refine jv_istore_n (L' := [some (.ref (x0)), some (.int (x1)), some (.int (x2)), some (.int (s3 + 1)), some (.int (x4))]) (jv_dk t_X13_inSpace (k := 31) rfl) rfl (Nat.le_of_ble_eq_true rfl) rfl ?_
    refine jv_iinc (v := 1) (L' := [some (.ref (x0)), some (.int (x1)), some (.int (x2)), some (.int (s3 + 1)), some (.int (x4 + 1))]) (jv_dk t_X13_inSpace (k := 32) rfl) rfl (by decide) rfl ?_
    refine jv_goto (tgt := 5) (jv_dk t_X13_inSpace (k := 33) rfl) rfl ?_
    exact hR5 _ _ _ _ _ _ 
def f_X13_inSpace_h5 (K5 : Int32 → jh → Option (Int32 × jh)) (R5 : Nat → Int32 → Int32 → Int32 → Int32 → jh → Option (Int32 × jh)) (x0 : Nat) (x1 : Int32) (x2 : Int32) (x3 : Int32) (x4 : Int32) (h : jh) : Option (Int32 × jh) :=
  (if 16 ≤ x4 then
  K5 x3 h
  else
  cV h x0 11 (f_X13_isThere x0 x4 h) fun v2 h3 =>
  (if v2 = 0 then
  R5 x0 x1 x2 (x3 + 0) (x4 + 1) h3
  else
  (if ¬ x1 = 0 then
  (if ¬ x1 = 1 then
  f_X13_inSpace_b43 R5 K5 x0 x1 x2 x4 4 x4 x0 x3 h3
  else
  f_X13_inSpace_b43 R5 K5 x0 x1 x2 x4 3 x4 x0 x3 h3)
  else
  f_X13_inSpace_b43 R5 K5 x0 x1 x2 x4 2 x4 x0 x3 h3)))
theorem o_f_X13_inSpace_h5 {X : jx} {b0 : Nat × Nat} {K5 : Int32 → jh → Option (Int32 × jh)} (hK5 : ∀ (x3 : Int32) (h : jh), jv_O X M_X13_inSpace b0 jeI 63 [none, none, none, some (.int (x3)), none] [] h (K5 x3 h)) : ∀ (x0 : Nat) (x1 : Int32) (x2 : Int32) (x3 : Int32) (x4 : Int32) (h : jh), jv_O X M_X13_inSpace b0 jeI 5 [some (.ref (x0)), some (.int (x1)), some (.int (x2)), some (.int (x3)), some (.int (x4))] [] h (jlp5 (f_X13_inSpace_h5 K5) jfu x0 x1 x2 x3 x4 h) := by
  refine jlp5_ok (P := fun x0 x1 x2 x3 x4 h o => jv_O X M_X13_inSpace b0 jeI 5 [some (.ref (x0)), some (.int (x1)), some (.int (x2)), some (.int (x3)), some (.int (x4))] [] h o) (fun R5 hR5 => ?_) (fun _ _ _ _ _ _  => jv_none rfl) jfu
  intro x0 x1 x2 x3 x4 h
  unfold f_X13_inSpace_h5
  refine jv_iload (jv_dk t_X13_inSpace (k := 4) rfl) rfl ?_
  refine jv_bipush (v := 16) (jv_dk t_X13_inSpace (k := 5) rfl) (by decide) ?_
  refine jv_icmp_ge (tgt := 63) (jv_dk t_X13_inSpace (k := 6) rfl) rfl (fun c1 => ?_) (fun c1 => ?_)
  · refine jv_le_row (jv_le_n (jv_le_n (jv_le_n (jv_le_s (jv_le_n (jv_le_nil)))))) ?_
    exact hK5 _ _ 
  · show jv_O _ _ _ _ 12 _ _ _ _
    refine jv_iload_n (jv_dk t_X13_inSpace (k := 7) rfl) rfl rfl ?_
    refine jv_aload_n (jv_dk t_X13_inSpace (k := 8) rfl) rfl rfl (Or.inr ⟨_, rfl⟩) ?_
    refine jv_iload (jv_dk t_X13_inSpace (k := 9) rfl) rfl ?_
    refine jv_callV (en' := jeI) (pv := jpI) (As := [.int (x4)]) (S := [.int (x3)]) (jv_dk t_X13_inSpace (k := 10) rfl) (fun _ => rfl) (Or.inl lk_X13_289) me_X13_isThere mv_X13_isThere ⟨by decide, by decide⟩ rfl rfl rfl (Nat.le_of_ble_eq_true rfl) (P_X13_isThere X x0 x4 h) (fun v2 h3 => ?_)
    show jv_O X M_X13_inSpace _ jeI 19 [some (.ref (x0)), some (.int (x1)), some (.int (x2)), some (.int (x3)), some (.int (x4))] [.int (v2), .int (x3)] h3 _
    refine jv_if_eq (tgt := 54) (jv_dk t_X13_inSpace (k := 11) rfl) rfl (fun c4 => ?_) (fun c4 => ?_)
    · refine jv_iconst (v := 0) (jv_dk t_X13_inSpace (k := 29) rfl) (by decide) ?_
      refine jv_iadd (jv_dk t_X13_inSpace (k := 30) rfl) ?_
      refine jv_istore_n (L' := [some (.ref (x0)), some (.int (x1)), some (.int (x2)), some (.int (x3 + 0)), some (.int (x4))]) (jv_dk t_X13_inSpace (k := 31) rfl) rfl (Nat.le_of_ble_eq_true rfl) rfl ?_
      refine jv_iinc (v := 1) (L' := [some (.ref (x0)), some (.int (x1)), some (.int (x2)), some (.int (x3 + 0)), some (.int (x4 + 1))]) (jv_dk t_X13_inSpace (k := 32) rfl) rfl (by decide) rfl ?_
      refine jv_goto (tgt := 5) (jv_dk t_X13_inSpace (k := 33) rfl) rfl ?_
      exact hR5 _ _ _ _ _ _ 
    · show jv_O _ _ _ _ 22 _ _ _ _
      refine jv_aload_n (jv_dk t_X13_inSpace (k := 12) rfl) rfl rfl (Or.inr ⟨_, rfl⟩) ?_
      refine jv_iload (jv_dk t_X13_inSpace (k := 13) rfl) rfl ?_
      refine jv_iload_n (jv_dk t_X13_inSpace (k := 14) rfl) rfl rfl ?_
      refine jv_if_ne (tgt := 33) (jv_dk t_X13_inSpace (k := 15) rfl) rfl (fun c5 => ?_) (fun c5 => ?_)
      · refine jv_iload_n (jv_dk t_X13_inSpace (k := 18) rfl) rfl rfl ?_
        refine jv_iconst (v := 1) (jv_dk t_X13_inSpace (k := 19) rfl) (by decide) ?_
        refine jv_icmp_ne (tgt := 42) (jv_dk t_X13_inSpace (k := 20) rfl) rfl (fun c6 => ?_) (fun c6 => ?_)
        · refine jv_iconst (v := 4) (jv_dk t_X13_inSpace (k := 23) rfl) (by decide) ?_
          refine jv_le_row (jv_le_s (jv_le_s (jv_le_s (jv_le_n (jv_le_s (jv_le_nil)))))) ?_
          exact o_f_X13_inSpace_b43 hR5 hK5 _ _ _ _ _ _ _ _ _ 
        · show jv_O _ _ _ _ 38 _ _ _ _
          refine jv_iconst (v := 3) (jv_dk t_X13_inSpace (k := 21) rfl) (by decide) ?_
          refine jv_goto (tgt := 43) (jv_dk t_X13_inSpace (k := 22) rfl) rfl ?_
          refine jv_le_row (jv_le_s (jv_le_s (jv_le_s (jv_le_n (jv_le_s (jv_le_nil)))))) ?_
          exact o_f_X13_inSpace_b43 hR5 hK5 _ _ _ _ _ _ _ _ _ 
      · show jv_O _ _ _ _ 29 _ _ _ _
        refine jv_iconst (v := 2) (jv_dk t_X13_inSpace (k := 16) rfl) (by decide) ?_
        refine jv_goto (tgt := 43) (jv_dk t_X13_inSpace (k := 17) rfl) rfl ?_
        refine jv_le_row (jv_le_s (jv_le_s (jv_le_s (jv_le_n (jv_le_s (jv_le_nil)))))) ?_
        exact o_f_X13_inSpace_b43 hR5 hK5 _ _ _ _ _ _ _ _ _ 
def f_X13_inSpace (a0 : Nat) (a1 : Int32) (a2 : Int32) (h : jh) : Option (Int32 × jh) :=
  jlp5 (f_X13_inSpace_h5 (fun y11 h10 =>
  some (y11, h10))) jfu a0 a1 a2 0 0 h
theorem P_X13_inSpace (X : jx) (a0 : Nat) (a1 : Int32) (a2 : Int32) (h : jh) : jv_P X M_X13_inSpace jeI [.ref (a0), .int (a1), .int (a2)] h (f_X13_inSpace a0 a1 a2 h) := by
  refine jv_P.of (by decide) rfl (by simp [Value.category]) (Nat.le_of_ble_eq_true rfl) ?_
  show jv_O X M_X13_inSpace (h.1, h.2.1) jeI 0 [some (.ref (a0)), some (.int (a1)), some (.int (a2)), none, none] [] h (f_X13_inSpace a0 a1 a2 h)
  unfold f_X13_inSpace
  refine jv_iconst (v := 0) (jv_dk t_X13_inSpace (k := 0) rfl) (by decide) ?_
  refine jv_istore_n (L' := [some (.ref (a0)), some (.int (a1)), some (.int (a2)), some (.int (0)), none]) (jv_dk t_X13_inSpace (k := 1) rfl) rfl (Nat.le_of_ble_eq_true rfl) rfl ?_
  refine jv_iconst (v := 0) (jv_dk t_X13_inSpace (k := 2) rfl) (by decide) ?_
  refine jv_istore (L' := [some (.ref (a0)), some (.int (a1)), some (.int (a2)), some (.int (0)), some (.int (0))]) (jv_dk t_X13_inSpace (k := 3) rfl) (Nat.le_of_ble_eq_true rfl) rfl ?_
  refine o_f_X13_inSpace_h5 (fun y11 h10 => ?_) _ _ _ _ _ _ 
  show jv_O X M_X13_inSpace _ jeI 63 [none, none, none, some (.int (y11)), none] [] h10 _
  refine jv_iload_n (jv_dk t_X13_inSpace (k := 34) rfl) rfl rfl ?_
  exact jv_iret (ty := .int) (jv_dk t_X13_inSpace (k := 35) rfl) rfl rfl rfl
def t0_X13_things : List (Nat × Instr × Nat) := [(0, .iconst 0, 1), (1, .istore_n 2, 1), (2, .iconst 0, 1), (3, .istore_n 3, 1), (4, .iload_n 3, 1), (5, .bipush 8, 2), (7, .if_icmp .ge 29, 3), (10, .iload_n 2, 1), (11, .aload_n 0, 1), (12, .iconst 2, 1), (13, .iload_n 1, 1), (14, .iconst 4, 1), (15, .iload_n 3, 1), (16, .iadd, 1), (17, .invokevirtual 217, 3), (20, .ifCond .le 7, 3), (23, .iconst 1, 1), (24, .goto 4, 3), (27, .iconst 0, 1), (28, .iadd, 1), (29, .istore_n 2, 1), (30, .iinc 3 1, 3), (33, .goto (-29), 3), (36, .iload_n 2, 1), (37, .ireturn, 1)]
theorem t_X13_things : jv_dec cX13_things t0_X13_things = true := by decide +kernel
def M_X13_things : jm := (yX13_things, cX13_things, 4, (some .int), 2, 44, [])
def f_X13_things_h4 (K4 : Int32 → jh → Option (Int32 × jh)) (R4 : Nat → Int32 → Int32 → Int32 → jh → Option (Int32 × jh)) (x0 : Nat) (x1 : Int32) (x2 : Int32) (x3 : Int32) (h : jh) : Option (Int32 × jh) :=
  (if 8 ≤ x3 then
  K4 x2 h
  else
  cV h x0 11 (f_X13_spaceOf x0 2 x1 (4 + x3) h) fun v2 h3 =>
  (if v2 ≤ 0 then
  R4 x0 x1 (x2 + 0) (x3 + 1) h3
  else
  R4 x0 x1 (x2 + 1) (x3 + 1) h3))
theorem o_f_X13_things_h4 {X : jx} {b0 : Nat × Nat} {K4 : Int32 → jh → Option (Int32 × jh)} (hK4 : ∀ (x2 : Int32) (h : jh), jv_O X M_X13_things b0 jeI 36 [none, none, some (.int (x2)), none] [] h (K4 x2 h)) : ∀ (x0 : Nat) (x1 : Int32) (x2 : Int32) (x3 : Int32) (h : jh), jv_O X M_X13_things b0 jeI 4 [some (.ref (x0)), some (.int (x1)), some (.int (x2)), some (.int (x3))] [] h (jlp4 (f_X13_things_h4 K4) jfu x0 x1 x2 x3 h) := by
  refine jlp4_ok (P := fun x0 x1 x2 x3 h o => jv_O X M_X13_things b0 jeI 4 [some (.ref (x0)), some (.int (x1)), some (.int (x2)), some (.int (x3))] [] h o) (fun R4 hR4 => ?_) (fun _ _ _ _ _  => jv_none rfl) jfu
  intro x0 x1 x2 x3 h
  unfold f_X13_things_h4
  refine jv_iload_n (jv_dk t_X13_things (k := 4) rfl) rfl rfl ?_
  refine jv_bipush (v := 8) (jv_dk t_X13_things (k := 5) rfl) (by decide) ?_
  refine jv_icmp_ge (tgt := 36) (jv_dk t_X13_things (k := 6) rfl) rfl (fun c1 => ?_) (fun c1 => ?_)
  · refine jv_le_row (jv_le_n (jv_le_n (jv_le_s (jv_le_n (jv_le_nil))))) ?_
    exact hK4 _ _ 
  · show jv_O _ _ _ _ 10 _ _ _ _
    refine jv_iload_n (jv_dk t_X13_things (k := 7) rfl) rfl rfl ?_
    refine jv_aload_n (jv_dk t_X13_things (k := 8) rfl) rfl rfl (Or.inr ⟨_, rfl⟩) ?_
    refine jv_iconst (v := 2) (jv_dk t_X13_things (k := 9) rfl) (by decide) ?_
    refine jv_iload_n (jv_dk t_X13_things (k := 10) rfl) rfl rfl ?_
    refine jv_iconst (v := 4) (jv_dk t_X13_things (k := 11) rfl) (by decide) ?_
    refine jv_iload_n (jv_dk t_X13_things (k := 12) rfl) rfl rfl ?_
    refine jv_iadd (jv_dk t_X13_things (k := 13) rfl) ?_
    refine jv_callV (en' := jeI) (pv := jpI) (As := [.int (2), .int (x1), .int (4 + x3)]) (S := [.int (x2)]) (jv_dk t_X13_things (k := 14) rfl) (fun _ => rfl) (Or.inl lk_X13_217) me_X13_spaceOf mv_X13_spaceOf ⟨by decide, by decide⟩ rfl rfl rfl (Nat.le_of_ble_eq_true rfl) (P_X13_spaceOf X x0 2 x1 (4 + x3) h) (fun v2 h3 => ?_)
    show jv_O X M_X13_things _ jeI 20 [some (.ref (x0)), some (.int (x1)), some (.int (x2)), some (.int (x3))] [.int (v2), .int (x2)] h3 _
    refine jv_if_le (tgt := 27) (jv_dk t_X13_things (k := 15) rfl) rfl (fun c4 => ?_) (fun c4 => ?_)
    · refine jv_iconst (v := 0) (jv_dk t_X13_things (k := 18) rfl) (by decide) ?_
      refine jv_iadd (jv_dk t_X13_things (k := 19) rfl) ?_
      refine jv_istore_n (L' := [some (.ref (x0)), some (.int (x1)), some (.int (x2 + 0)), some (.int (x3))]) (jv_dk t_X13_things (k := 20) rfl) rfl (Nat.le_of_ble_eq_true rfl) rfl ?_
      refine jv_iinc (v := 1) (L' := [some (.ref (x0)), some (.int (x1)), some (.int (x2 + 0)), some (.int (x3 + 1))]) (jv_dk t_X13_things (k := 21) rfl) rfl (by decide) rfl ?_
      refine jv_goto (tgt := 4) (jv_dk t_X13_things (k := 22) rfl) rfl ?_
      exact hR4 _ _ _ _ _ 
    · show jv_O _ _ _ _ 23 _ _ _ _
      refine jv_iconst (v := 1) (jv_dk t_X13_things (k := 16) rfl) (by decide) ?_
      refine jv_goto (tgt := 28) (jv_dk t_X13_things (k := 17) rfl) rfl ?_
      refine jv_iadd (jv_dk t_X13_things (k := 19) rfl) ?_
      refine jv_istore_n (L' := [some (.ref (x0)), some (.int (x1)), some (.int (x2 + 1)), some (.int (x3))]) (jv_dk t_X13_things (k := 20) rfl) rfl (Nat.le_of_ble_eq_true rfl) rfl ?_
      refine jv_iinc (v := 1) (L' := [some (.ref (x0)), some (.int (x1)), some (.int (x2 + 1)), some (.int (x3 + 1))]) (jv_dk t_X13_things (k := 21) rfl) rfl (by decide) rfl ?_
      refine jv_goto (tgt := 4) (jv_dk t_X13_things (k := 22) rfl) rfl ?_
      exact hR4 _ _ _ _ _ 
def f_X13_things (a0 : Nat) (a1 : Int32) (h : jh) : Option (Int32 × jh) :=
  jlp4 (f_X13_things_h4 (fun y6 h5 =>
  some (y6, h5))) jfu a0 a1 0 0 h
theorem P_X13_things (X : jx) (a0 : Nat) (a1 : Int32) (h : jh) : jv_P X M_X13_things jeI [.ref (a0), .int (a1)] h (f_X13_things a0 a1 h) := by
  refine jv_P.of (by decide) rfl (by simp [Value.category]) (Nat.le_of_ble_eq_true rfl) ?_
  show jv_O X M_X13_things (h.1, h.2.1) jeI 0 [some (.ref (a0)), some (.int (a1)), none, none] [] h (f_X13_things a0 a1 h)
  unfold f_X13_things
  refine jv_iconst (v := 0) (jv_dk t_X13_things (k := 0) rfl) (by decide) ?_
  refine jv_istore_n (L' := [some (.ref (a0)), some (.int (a1)), some (.int (0)), none]) (jv_dk t_X13_things (k := 1) rfl) rfl (Nat.le_of_ble_eq_true rfl) rfl ?_
  refine jv_iconst (v := 0) (jv_dk t_X13_things (k := 2) rfl) (by decide) ?_
  refine jv_istore_n (L' := [some (.ref (a0)), some (.int (a1)), some (.int (0)), some (.int (0))]) (jv_dk t_X13_things (k := 3) rfl) rfl (Nat.le_of_ble_eq_true rfl) rfl ?_
  refine o_f_X13_things_h4 (fun y6 h5 => ?_) _ _ _ _ _ 
  show jv_O X M_X13_things _ jeI 36 [none, none, some (.int (y6)), none] [] h5 _
  refine jv_iload_n (jv_dk t_X13_things (k := 23) rfl) rfl rfl ?_
  exact jv_iret (ty := .int) (jv_dk t_X13_things (k := 24) rfl) rfl rfl rfl
def t0_X13_space : List (Nat × Instr × Nat) := [(0, .aload_n 0, 1), (1, .iconst 0, 1), (2, .putfield 96, 3), (5, .iload_n 1, 1), (6, .iconst 0, 1), (7, .iconst 2, 1), (8, .invokestatic 169, 3), (11, .ifCond .eq 12, 3), (14, .aload_n 0, 1), (15, .iload_n 1, 1), (16, .iload_n 2, 1), (17, .invokevirtual 254, 3), (20, .ifCond .ne 9, 3), (23, .aload_n 0, 1), (24, .iconst 1, 1), (25, .invokevirtual 185, 3), (28, .ireturn, 1), (29, .iload_n 3, 1), (30, .tableswitch 122 0 6 #[42, 42, 42, 50, 57, 90, 107], 42), (72, .aload_n 0, 1), (73, .iload_n 1, 1), (74, .iload_n 2, 1), (75, .iload_n 3, 1), (76, .invokevirtual 217, 3), (79, .ireturn, 1), (80, .aload_n 0, 1), (81, .iload_n 1, 1), (82, .iload_n 2, 1), (83, .invokevirtual 350, 3), (86, .ireturn, 1), (87, .iload_n 1, 1), (88, .ifCond .ne 11, 3), (91, .aload_n 0, 1), (92, .iload_n 2, 1), (93, .invokevirtual 221, 3), (96, .goto 23, 3), (99, .iload_n 1, 1), (100, .iconst 1, 1), (101, .if_icmp .ne 13, 3), (104, .aload_n 0, 1), (105, .iload_n 1, 1), (106, .iload_n 2, 1), (107, .iconst 3, 1), (108, .invokevirtual 217, 3), (111, .goto 8, 3), (114, .aload_n 0, 1), (115, .iload_n 2, 1), (116, .invokevirtual 353, 3), (119, .ireturn, 1), (120, .iload_n 1, 1), (121, .iconst 2, 1), (122, .if_icmp .ne 13, 3), (125, .aload_n 0, 1), (126, .iload_n 1, 1), (127, .iload_n 2, 1), (128, .iconst 3, 1), (129, .invokevirtual 217, 3), (132, .goto 4, 3), (135, .iconst 0, 1), (136, .ireturn, 1), (137, .iload_n 1, 1), (138, .iconst 2, 1), (139, .if_icmp .ne 11, 3), (142, .aload_n 0, 1), (143, .iload_n 2, 1), (144, .invokevirtual 274, 3), (147, .goto 4, 3), (150, .iconst 0, 1), (151, .ireturn, 1), (152, .aload_n 0, 1), (153, .iconst 1, 1), (154, .invokevirtual 185, 3), (157, .ireturn, 1)]
theorem t_X13_space : jv_dec cX13_space t0_X13_space = true := by decide +kernel
def M_X13_space : jm := (yX13_space, cX13_space, 4, (some .int), 3, 68, [])
theorem lk_X13_353 : Cond.methodLink RX13 353 M_X13_things.1 ∈ lw_tbl := (jv_at 1783 (by decide +kernel))
set_option maxRecDepth 20000 in
theorem me_X13_things : jv_me M_X13_things 1 := ⟨(jv_in7 (List.mem_of_getElem? (i := 186) rfl)), (jv_at 172 (by decide +kernel)), ⟨by decide, by decide⟩, by decide +kernel⟩
theorem mv_X13_things : jv_mv M_X13_things := ⟨(jv_at 1785 (by decide +kernel)), (jv_at 147 (by decide +kernel))⟩
theorem lk_X13_350 : Cond.methodLink RX13 350 M_X13_inSpace.1 ∈ lw_tbl := (jv_at 1779 (by decide +kernel))
set_option maxRecDepth 20000 in
theorem me_X13_inSpace : jv_me M_X13_inSpace 2 := ⟨(jv_in7 (List.mem_of_getElem? (i := 182) rfl)), (jv_at 172 (by decide +kernel)), ⟨by decide, by decide⟩, by decide +kernel⟩
theorem mv_X13_inSpace : jv_mv M_X13_inSpace := ⟨(jv_at 1781 (by decide +kernel)), (jv_at 146 (by decide +kernel))⟩
def f_X13_space_b23 (x0 : Nat) (h : jh) : Option (Int32 × jh) :=
  cV h x0 11 (f_X13_fail x0 1 h) fun v5 h6 =>
  some (v5, h6)
theorem o_f_X13_space_b23 {X : jx} {b0 : Nat × Nat} (x0 : Nat) (h : jh) : jv_O X M_X13_space b0 jeI 23 [some (.ref (x0)), none, none, none] [] h (f_X13_space_b23 x0 h) := by
  unfold f_X13_space_b23
  refine jv_aload_n (jv_dk t_X13_space (k := 13) rfl) rfl rfl (Or.inr ⟨_, rfl⟩) ?_
  refine jv_iconst (v := 1) (jv_dk t_X13_space (k := 14) rfl) (by decide) ?_
  refine jv_callV (en' := jeI) (pv := jpI) (As := [.int (1)]) (S := []) (jv_dk t_X13_space (k := 15) rfl) (fun _ => rfl) (Or.inl lk_X13_185) me_X13_fail mv_X13_fail ⟨by decide, by decide⟩ rfl rfl rfl (Nat.le_of_ble_eq_true rfl) (P_X13_fail X x0 1 h) (fun v5 h6 => ?_)
  show jv_O X M_X13_space _ jeI 28 [some (.ref (x0)), none, none, none] [.int (v5)] h6 _
  exact jv_iret (ty := .int) (jv_dk t_X13_space (k := 16) rfl) rfl rfl rfl
def f_X13_space_b72 (x0 : Nat) (x1 : Int32) (x2 : Int32) (x3 : Int32) (h : jh) : Option (Int32 × jh) :=
  cV h x0 11 (f_X13_spaceOf x0 x1 x2 x3 h) fun v35 h36 =>
  some (v35, h36)
theorem o_f_X13_space_b72 {X : jx} {b0 : Nat × Nat} (x0 : Nat) (x1 : Int32) (x2 : Int32) (x3 : Int32) (h : jh) : jv_O X M_X13_space b0 jeI 72 [some (.ref (x0)), some (.int (x1)), some (.int (x2)), some (.int (x3))] [] h (f_X13_space_b72 x0 x1 x2 x3 h) := by
  unfold f_X13_space_b72
  refine jv_aload_n (jv_dk t_X13_space (k := 19) rfl) rfl rfl (Or.inr ⟨_, rfl⟩) ?_
  refine jv_iload_n (jv_dk t_X13_space (k := 20) rfl) rfl rfl ?_
  refine jv_iload_n (jv_dk t_X13_space (k := 21) rfl) rfl rfl ?_
  refine jv_iload_n (jv_dk t_X13_space (k := 22) rfl) rfl rfl ?_
  refine jv_callV (en' := jeI) (pv := jpI) (As := [.int (x1), .int (x2), .int (x3)]) (S := []) (jv_dk t_X13_space (k := 23) rfl) (fun _ => rfl) (Or.inl lk_X13_217) me_X13_spaceOf mv_X13_spaceOf ⟨by decide, by decide⟩ rfl rfl rfl (Nat.le_of_ble_eq_true rfl) (P_X13_spaceOf X x0 x1 x2 x3 h) (fun v35 h36 => ?_)
  show jv_O X M_X13_space _ jeI 79 [some (.ref (x0)), some (.int (x1)), some (.int (x2)), some (.int (x3))] [.int (v35)] h36 _
  exact jv_iret (ty := .int) (jv_dk t_X13_space (k := 24) rfl) rfl rfl rfl
def f_X13_space (a0 : Nat) (a1 : Int32) (a2 : Int32) (a3 : Int32) (h : jh) : Option (Int32 × jh) :=
  pV h a0 11 1 (.int (0)) fun h1 =>
  bd (f_X13_isIn a1 0 2 h1) fun v2 h3 =>
  (if v2 = 0 then
  f_X13_space_b23 a0 h3
  else
  cV h3 a0 11 (f_X13_isSpace a0 a1 a2 h3) fun v7 h8 =>
  (if ¬ v7 = 0 then
  (if a3 = 0 then
  f_X13_space_b72 a0 a1 a2 a3 h8
  else
  (if a3 = 1 then
  f_X13_space_b72 a0 a1 a2 a3 h8
  else
  (if a3 = 2 then
  f_X13_space_b72 a0 a1 a2 a3 h8
  else
  (if a3 = 3 then
  cV h8 a0 11 (f_X13_inSpace a0 a1 a2 h8) fun v33 h34 =>
  some (v33, h34)
  else
  (if a3 = 4 then
  (if ¬ a1 = 0 then
  (if ¬ a1 = 1 then
  cV h8 a0 11 (f_X13_things a0 a2 h8) fun v27 h28 =>
  some (v27, h28)
  else
  cV h8 a0 11 (f_X13_spaceOf a0 a1 a2 3 h8) fun v29 h30 =>
  some (v29, h30))
  else
  cV h8 a0 11 (f_X13_initOf a0 a2 h8) fun v31 h32 =>
  some (v31, h32))
  else
  (if a3 = 5 then
  (if ¬ a1 = 2 then
  some (0, h8)
  else
  cV h8 a0 11 (f_X13_spaceOf a0 a1 a2 3 h8) fun v23 h24 =>
  some (v23, h24))
  else
  (if a3 = 6 then
  (if ¬ a1 = 2 then
  some (0, h8)
  else
  cV h8 a0 11 (f_X13_spreads a0 a2 h8) fun v20 h21 =>
  some (v20, h21))
  else
  cV h8 a0 11 (f_X13_fail a0 1 h8) fun v17 h18 =>
  some (v17, h18))))))))
  else
  f_X13_space_b23 a0 h8))
theorem P_X13_space (X : jx) (a0 : Nat) (a1 : Int32) (a2 : Int32) (a3 : Int32) (h : jh) : jv_P X M_X13_space jeI [.ref (a0), .int (a1), .int (a2), .int (a3)] h (f_X13_space a0 a1 a2 a3 h) := by
  refine jv_P.of (by decide) rfl (by simp [Value.category]) (Nat.le_of_ble_eq_true rfl) ?_
  show jv_O X M_X13_space (h.1, h.2.1) jeI 0 [some (.ref (a0)), some (.int (a1)), some (.int (a2)), some (.int (a3))] [] h (f_X13_space a0 a1 a2 a3 h)
  unfold f_X13_space
  refine jv_aload_n (jv_dk t_X13_space (k := 0) rfl) rfl rfl (Or.inr ⟨_, rfl⟩) ?_
  refine jv_iconst (v := 0) (jv_dk t_X13_space (k := 1) rfl) (by decide) ?_
  refine jv_pV (jv_dk t_X13_space (k := 2) rfl) fl_X13_96 kX13 (Or.inl rfl) rfl rfl rfl (fun h1 => ?_)
  refine jv_iload_n (jv_dk t_X13_space (k := 3) rfl) rfl rfl ?_
  refine jv_iconst (v := 0) (jv_dk t_X13_space (k := 4) rfl) (by decide) ?_
  refine jv_iconst (v := 2) (jv_dk t_X13_space (k := 5) rfl) (by decide) ?_
  refine jv_callS (en' := jeI) (pv := jpI) (As := [.int (a1), .int (0), .int (2)]) (S := []) (jv_dk t_X13_space (k := 6) rfl) (fun _ => rfl) (Or.inl lk_X13_169) me_X13_isIn ms_X13_isIn ⟨by decide, by decide⟩ rfl rfl (Nat.le_of_ble_eq_true rfl) (P_X13_isIn X a1 0 2 h1) (fun v2 h3 => ?_)
  show jv_O X M_X13_space _ jeI 11 [some (.ref (a0)), some (.int (a1)), some (.int (a2)), some (.int (a3))] [.int (v2)] h3 _
  refine jv_if_eq (tgt := 23) (jv_dk t_X13_space (k := 7) rfl) rfl (fun c4 => ?_) (fun c4 => ?_)
  · refine jv_le_row (jv_le_s (jv_le_n (jv_le_n (jv_le_n (jv_le_nil))))) ?_
    exact o_f_X13_space_b23 _ _ 
  · show jv_O _ _ _ _ 14 _ _ _ _
    refine jv_aload_n (jv_dk t_X13_space (k := 8) rfl) rfl rfl (Or.inr ⟨_, rfl⟩) ?_
    refine jv_iload_n (jv_dk t_X13_space (k := 9) rfl) rfl rfl ?_
    refine jv_iload_n (jv_dk t_X13_space (k := 10) rfl) rfl rfl ?_
    refine jv_callV (en' := jeI) (pv := jpI) (As := [.int (a1), .int (a2)]) (S := []) (jv_dk t_X13_space (k := 11) rfl) (fun _ => rfl) (Or.inl lk_X13_254) me_X13_isSpace mv_X13_isSpace ⟨by decide, by decide⟩ rfl rfl rfl (Nat.le_of_ble_eq_true rfl) (P_X13_isSpace X a0 a1 a2 h3) (fun v7 h8 => ?_)
    show jv_O X M_X13_space _ jeI 20 [some (.ref (a0)), some (.int (a1)), some (.int (a2)), some (.int (a3))] [.int (v7)] h8 _
    refine jv_if_ne (tgt := 29) (jv_dk t_X13_space (k := 12) rfl) rfl (fun c9 => ?_) (fun c9 => ?_)
    · refine jv_iload_n (jv_dk t_X13_space (k := 17) rfl) rfl rfl ?_
      by_cases c10 : a3 = 0
      · rw [if_pos c10]
        refine jv_tbl (tgt := 72) (jv_dk t_X13_space (k := 18) rfl) (by rw [c10] <;> decide) (by rw [c10] <;> decide) (by rw [c10] <;> rfl) rfl ?_
        exact o_f_X13_space_b72 _ _ _ _ _ 
      rw [if_neg c10]
      by_cases c11 : a3 = 1
      · rw [if_pos c11]
        refine jv_tbl (tgt := 72) (jv_dk t_X13_space (k := 18) rfl) (by rw [c11] <;> decide) (by rw [c11] <;> decide) (by rw [c11] <;> rfl) rfl ?_
        exact o_f_X13_space_b72 _ _ _ _ _ 
      rw [if_neg c11]
      by_cases c12 : a3 = 2
      · rw [if_pos c12]
        refine jv_tbl (tgt := 72) (jv_dk t_X13_space (k := 18) rfl) (by rw [c12] <;> decide) (by rw [c12] <;> decide) (by rw [c12] <;> rfl) rfl ?_
        exact o_f_X13_space_b72 _ _ _ _ _ 
      rw [if_neg c12]
      by_cases c13 : a3 = 3
      · rw [if_pos c13]
        refine jv_tbl (tgt := 80) (jv_dk t_X13_space (k := 18) rfl) (by rw [c13] <;> decide) (by rw [c13] <;> decide) (by rw [c13] <;> rfl) rfl ?_
        refine jv_aload_n (jv_dk t_X13_space (k := 25) rfl) rfl rfl (Or.inr ⟨_, rfl⟩) ?_
        refine jv_iload_n (jv_dk t_X13_space (k := 26) rfl) rfl rfl ?_
        refine jv_iload_n (jv_dk t_X13_space (k := 27) rfl) rfl rfl ?_
        refine jv_callV (en' := jeI) (pv := jpI) (As := [.int (a1), .int (a2)]) (S := []) (jv_dk t_X13_space (k := 28) rfl) (fun _ => rfl) (Or.inl lk_X13_350) me_X13_inSpace mv_X13_inSpace ⟨by decide, by decide⟩ rfl rfl rfl (Nat.le_of_ble_eq_true rfl) (P_X13_inSpace X a0 a1 a2 h8) (fun v33 h34 => ?_)
        show jv_O X M_X13_space _ jeI 86 [some (.ref (a0)), some (.int (a1)), some (.int (a2)), some (.int (a3))] [.int (v33)] h34 _
        exact jv_iret (ty := .int) (jv_dk t_X13_space (k := 29) rfl) rfl rfl rfl
      rw [if_neg c13]
      by_cases c14 : a3 = 4
      · rw [if_pos c14]
        refine jv_tbl (tgt := 87) (jv_dk t_X13_space (k := 18) rfl) (by rw [c14] <;> decide) (by rw [c14] <;> decide) (by rw [c14] <;> rfl) rfl ?_
        refine jv_iload_n (jv_dk t_X13_space (k := 30) rfl) rfl rfl ?_
        refine jv_if_ne (tgt := 99) (jv_dk t_X13_space (k := 31) rfl) rfl (fun c25 => ?_) (fun c25 => ?_)
        · refine jv_iload_n (jv_dk t_X13_space (k := 36) rfl) rfl rfl ?_
          refine jv_iconst (v := 1) (jv_dk t_X13_space (k := 37) rfl) (by decide) ?_
          refine jv_icmp_ne (tgt := 114) (jv_dk t_X13_space (k := 38) rfl) rfl (fun c26 => ?_) (fun c26 => ?_)
          · refine jv_aload_n (jv_dk t_X13_space (k := 45) rfl) rfl rfl (Or.inr ⟨_, rfl⟩) ?_
            refine jv_iload_n (jv_dk t_X13_space (k := 46) rfl) rfl rfl ?_
            refine jv_callV (en' := jeI) (pv := jpI) (As := [.int (a2)]) (S := []) (jv_dk t_X13_space (k := 47) rfl) (fun _ => rfl) (Or.inl lk_X13_353) me_X13_things mv_X13_things ⟨by decide, by decide⟩ rfl rfl rfl (Nat.le_of_ble_eq_true rfl) (P_X13_things X a0 a2 h8) (fun v27 h28 => ?_)
            show jv_O X M_X13_space _ jeI 119 [some (.ref (a0)), some (.int (a1)), some (.int (a2)), some (.int (a3))] [.int (v27)] h28 _
            exact jv_iret (ty := .int) (jv_dk t_X13_space (k := 48) rfl) rfl rfl rfl
          · show jv_O _ _ _ _ 104 _ _ _ _
            refine jv_aload_n (jv_dk t_X13_space (k := 39) rfl) rfl rfl (Or.inr ⟨_, rfl⟩) ?_
            refine jv_iload_n (jv_dk t_X13_space (k := 40) rfl) rfl rfl ?_
            refine jv_iload_n (jv_dk t_X13_space (k := 41) rfl) rfl rfl ?_
            refine jv_iconst (v := 3) (jv_dk t_X13_space (k := 42) rfl) (by decide) ?_
            refine jv_callV (en' := jeI) (pv := jpI) (As := [.int (a1), .int (a2), .int (3)]) (S := []) (jv_dk t_X13_space (k := 43) rfl) (fun _ => rfl) (Or.inl lk_X13_217) me_X13_spaceOf mv_X13_spaceOf ⟨by decide, by decide⟩ rfl rfl rfl (Nat.le_of_ble_eq_true rfl) (P_X13_spaceOf X a0 a1 a2 3 h8) (fun v29 h30 => ?_)
            show jv_O X M_X13_space _ jeI 111 [some (.ref (a0)), some (.int (a1)), some (.int (a2)), some (.int (a3))] [.int (v29)] h30 _
            refine jv_goto (tgt := 119) (jv_dk t_X13_space (k := 44) rfl) rfl ?_
            exact jv_iret (ty := .int) (jv_dk t_X13_space (k := 48) rfl) rfl rfl rfl
        · show jv_O _ _ _ _ 91 _ _ _ _
          refine jv_aload_n (jv_dk t_X13_space (k := 32) rfl) rfl rfl (Or.inr ⟨_, rfl⟩) ?_
          refine jv_iload_n (jv_dk t_X13_space (k := 33) rfl) rfl rfl ?_
          refine jv_callV (en' := jeI) (pv := jpI) (As := [.int (a2)]) (S := []) (jv_dk t_X13_space (k := 34) rfl) (fun _ => rfl) (Or.inl lk_X13_221) me_X13_initOf mv_X13_initOf ⟨by decide, by decide⟩ rfl rfl rfl (Nat.le_of_ble_eq_true rfl) (P_X13_initOf X a0 a2 h8) (fun v31 h32 => ?_)
          show jv_O X M_X13_space _ jeI 96 [some (.ref (a0)), some (.int (a1)), some (.int (a2)), some (.int (a3))] [.int (v31)] h32 _
          refine jv_goto (tgt := 119) (jv_dk t_X13_space (k := 35) rfl) rfl ?_
          exact jv_iret (ty := .int) (jv_dk t_X13_space (k := 48) rfl) rfl rfl rfl
      rw [if_neg c14]
      by_cases c15 : a3 = 5
      · rw [if_pos c15]
        refine jv_tbl (tgt := 120) (jv_dk t_X13_space (k := 18) rfl) (by rw [c15] <;> decide) (by rw [c15] <;> decide) (by rw [c15] <;> rfl) rfl ?_
        refine jv_iload_n (jv_dk t_X13_space (k := 49) rfl) rfl rfl ?_
        refine jv_iconst (v := 2) (jv_dk t_X13_space (k := 50) rfl) (by decide) ?_
        refine jv_icmp_ne (tgt := 135) (jv_dk t_X13_space (k := 51) rfl) rfl (fun c22 => ?_) (fun c22 => ?_)
        · refine jv_iconst (v := 0) (jv_dk t_X13_space (k := 58) rfl) (by decide) ?_
          exact jv_iret (ty := .int) (jv_dk t_X13_space (k := 59) rfl) rfl rfl rfl
        · show jv_O _ _ _ _ 125 _ _ _ _
          refine jv_aload_n (jv_dk t_X13_space (k := 52) rfl) rfl rfl (Or.inr ⟨_, rfl⟩) ?_
          refine jv_iload_n (jv_dk t_X13_space (k := 53) rfl) rfl rfl ?_
          refine jv_iload_n (jv_dk t_X13_space (k := 54) rfl) rfl rfl ?_
          refine jv_iconst (v := 3) (jv_dk t_X13_space (k := 55) rfl) (by decide) ?_
          refine jv_callV (en' := jeI) (pv := jpI) (As := [.int (a1), .int (a2), .int (3)]) (S := []) (jv_dk t_X13_space (k := 56) rfl) (fun _ => rfl) (Or.inl lk_X13_217) me_X13_spaceOf mv_X13_spaceOf ⟨by decide, by decide⟩ rfl rfl rfl (Nat.le_of_ble_eq_true rfl) (P_X13_spaceOf X a0 a1 a2 3 h8) (fun v23 h24 => ?_)
          show jv_O X M_X13_space _ jeI 132 [some (.ref (a0)), some (.int (a1)), some (.int (a2)), some (.int (a3))] [.int (v23)] h24 _
          refine jv_goto (tgt := 136) (jv_dk t_X13_space (k := 57) rfl) rfl ?_
          exact jv_iret (ty := .int) (jv_dk t_X13_space (k := 59) rfl) rfl rfl rfl
      rw [if_neg c15]
      by_cases c16 : a3 = 6
      · rw [if_pos c16]
        refine jv_tbl (tgt := 137) (jv_dk t_X13_space (k := 18) rfl) (by rw [c16] <;> decide) (by rw [c16] <;> decide) (by rw [c16] <;> rfl) rfl ?_
        refine jv_iload_n (jv_dk t_X13_space (k := 60) rfl) rfl rfl ?_
        refine jv_iconst (v := 2) (jv_dk t_X13_space (k := 61) rfl) (by decide) ?_
        refine jv_icmp_ne (tgt := 150) (jv_dk t_X13_space (k := 62) rfl) rfl (fun c19 => ?_) (fun c19 => ?_)
        · refine jv_iconst (v := 0) (jv_dk t_X13_space (k := 67) rfl) (by decide) ?_
          exact jv_iret (ty := .int) (jv_dk t_X13_space (k := 68) rfl) rfl rfl rfl
        · show jv_O _ _ _ _ 142 _ _ _ _
          refine jv_aload_n (jv_dk t_X13_space (k := 63) rfl) rfl rfl (Or.inr ⟨_, rfl⟩) ?_
          refine jv_iload_n (jv_dk t_X13_space (k := 64) rfl) rfl rfl ?_
          refine jv_callV (en' := jeI) (pv := jpI) (As := [.int (a2)]) (S := []) (jv_dk t_X13_space (k := 65) rfl) (fun _ => rfl) (Or.inl lk_X13_274) me_X13_spreads mv_X13_spreads ⟨by decide, by decide⟩ rfl rfl rfl (Nat.le_of_ble_eq_true rfl) (P_X13_spreads X a0 a2 h8) (fun v20 h21 => ?_)
          show jv_O X M_X13_space _ jeI 147 [some (.ref (a0)), some (.int (a1)), some (.int (a2)), some (.int (a3))] [.int (v20)] h21 _
          refine jv_goto (tgt := 151) (jv_dk t_X13_space (k := 66) rfl) rfl ?_
          exact jv_iret (ty := .int) (jv_dk t_X13_space (k := 68) rfl) rfl rfl rfl
      rw [if_neg c16]
      have e_c10 := jv_ne (x := a3) (k := 0) (by decide) (by decide) c10
      have e_c11 := jv_ne (x := a3) (k := 1) (by decide) (by decide) c11
      have e_c12 := jv_ne (x := a3) (k := 2) (by decide) (by decide) c12
      have e_c13 := jv_ne (x := a3) (k := 3) (by decide) (by decide) c13
      have e_c14 := jv_ne (x := a3) (k := 4) (by decide) (by decide) c14
      have e_c15 := jv_ne (x := a3) (k := 5) (by decide) (by decide) c15
      have e_c16 := jv_ne (x := a3) (k := 6) (by decide) (by decide) c16
      refine jv_tblOut (tgt := 152) (jv_dk t_X13_space (k := 18) rfl) (by omega) rfl ?_
      refine jv_aload_n (jv_dk t_X13_space (k := 69) rfl) rfl rfl (Or.inr ⟨_, rfl⟩) ?_
      refine jv_iconst (v := 1) (jv_dk t_X13_space (k := 70) rfl) (by decide) ?_
      refine jv_callV (en' := jeI) (pv := jpI) (As := [.int (1)]) (S := []) (jv_dk t_X13_space (k := 71) rfl) (fun _ => rfl) (Or.inl lk_X13_185) me_X13_fail mv_X13_fail ⟨by decide, by decide⟩ rfl rfl rfl (Nat.le_of_ble_eq_true rfl) (P_X13_fail X a0 1 h8) (fun v17 h18 => ?_)
      show jv_O X M_X13_space _ jeI 157 [some (.ref (a0)), some (.int (a1)), some (.int (a2)), some (.int (a3))] [.int (v17)] h18 _
      exact jv_iret (ty := .int) (jv_dk t_X13_space (k := 72) rfl) rfl rfl rfl
    · show jv_O _ _ _ _ 23 _ _ _ _
      refine jv_le_row (jv_le_s (jv_le_n (jv_le_n (jv_le_n (jv_le_nil))))) ?_
      exact o_f_X13_space_b23 _ _ 
def t0_X13_number : List (Nat × Instr × Nat) := [(0, .aload_n 0, 1), (1, .iconst 0, 1), (2, .putfield 96, 3), (5, .aload_n 0, 1), (6, .iload_n 1, 1), (7, .invokevirtual 289, 3), (10, .ifCond .eq 12, 3), (13, .aload_n 0, 1), (14, .iconst 0, 1), (15, .iload_n 2, 1), (16, .invokevirtual 254, 3), (19, .ifCond .ne 9, 3), (22, .aload_n 0, 1), (23, .iconst 1, 1), (24, .invokevirtual 185, 3), (27, .ireturn, 1), (28, .aload_n 0, 1), (29, .iload_n 1, 1), (30, .iload_n 2, 1), (31, .invokevirtual 214, 3), (34, .istore_n 3, 1), (35, .iload_n 3, 1), (36, .ifCond .ne 7, 3), (39, .iconst (-1), 1), (40, .goto 4, 3), (43, .iload_n 3, 1), (44, .ireturn, 1)]
theorem t_X13_number : jv_dec cX13_number t0_X13_number = true := by decide +kernel
def M_X13_number : jm := (yX13_number, cX13_number, 4, (some .int), 2, 44, [])
def f_X13_number_b22 (x0 : Nat) (h : jh) : Option (Int32 × jh) :=
  cV h x0 11 (f_X13_fail x0 1 h) fun v5 h6 =>
  some (v5, h6)
theorem o_f_X13_number_b22 {X : jx} {b0 : Nat × Nat} (x0 : Nat) (h : jh) : jv_O X M_X13_number b0 jeI 22 [some (.ref (x0)), none, none, none] [] h (f_X13_number_b22 x0 h) := by
  unfold f_X13_number_b22
  refine jv_aload_n (jv_dk t_X13_number (k := 12) rfl) rfl rfl (Or.inr ⟨_, rfl⟩) ?_
  refine jv_iconst (v := 1) (jv_dk t_X13_number (k := 13) rfl) (by decide) ?_
  refine jv_callV (en' := jeI) (pv := jpI) (As := [.int (1)]) (S := []) (jv_dk t_X13_number (k := 14) rfl) (fun _ => rfl) (Or.inl lk_X13_185) me_X13_fail mv_X13_fail ⟨by decide, by decide⟩ rfl rfl rfl (Nat.le_of_ble_eq_true rfl) (P_X13_fail X x0 1 h) (fun v5 h6 => ?_)
  show jv_O X M_X13_number _ jeI 27 [some (.ref (x0)), none, none, none] [.int (v5)] h6 _
  exact jv_iret (ty := .int) (jv_dk t_X13_number (k := 15) rfl) rfl rfl rfl
def f_X13_number (a0 : Nat) (a1 : Int32) (a2 : Int32) (h : jh) : Option (Int32 × jh) :=
  pV h a0 11 1 (.int (0)) fun h1 =>
  cV h1 a0 11 (f_X13_isThere a0 a1 h1) fun v2 h3 =>
  (if v2 = 0 then
  f_X13_number_b22 a0 h3
  else
  cV h3 a0 11 (f_X13_isSpace a0 0 a2 h3) fun v7 h8 =>
  (if ¬ v7 = 0 then
  cV h8 a0 11 (f_X13_numberOf a0 a1 a2 h8) fun v10 h11 =>
  (if ¬ v10 = 0 then
  some (v10, h11)
  else
  some ((-1), h11))
  else
  f_X13_number_b22 a0 h8))
theorem P_X13_number (X : jx) (a0 : Nat) (a1 : Int32) (a2 : Int32) (h : jh) : jv_P X M_X13_number jeI [.ref (a0), .int (a1), .int (a2)] h (f_X13_number a0 a1 a2 h) := by
  refine jv_P.of (by decide) rfl (by simp [Value.category]) (Nat.le_of_ble_eq_true rfl) ?_
  show jv_O X M_X13_number (h.1, h.2.1) jeI 0 [some (.ref (a0)), some (.int (a1)), some (.int (a2)), none] [] h (f_X13_number a0 a1 a2 h)
  unfold f_X13_number
  refine jv_aload_n (jv_dk t_X13_number (k := 0) rfl) rfl rfl (Or.inr ⟨_, rfl⟩) ?_
  refine jv_iconst (v := 0) (jv_dk t_X13_number (k := 1) rfl) (by decide) ?_
  refine jv_pV (jv_dk t_X13_number (k := 2) rfl) fl_X13_96 kX13 (Or.inl rfl) rfl rfl rfl (fun h1 => ?_)
  refine jv_aload_n (jv_dk t_X13_number (k := 3) rfl) rfl rfl (Or.inr ⟨_, rfl⟩) ?_
  refine jv_iload_n (jv_dk t_X13_number (k := 4) rfl) rfl rfl ?_
  refine jv_callV (en' := jeI) (pv := jpI) (As := [.int (a1)]) (S := []) (jv_dk t_X13_number (k := 5) rfl) (fun _ => rfl) (Or.inl lk_X13_289) me_X13_isThere mv_X13_isThere ⟨by decide, by decide⟩ rfl rfl rfl (Nat.le_of_ble_eq_true rfl) (P_X13_isThere X a0 a1 h1) (fun v2 h3 => ?_)
  show jv_O X M_X13_number _ jeI 10 [some (.ref (a0)), some (.int (a1)), some (.int (a2)), none] [.int (v2)] h3 _
  refine jv_if_eq (tgt := 22) (jv_dk t_X13_number (k := 6) rfl) rfl (fun c4 => ?_) (fun c4 => ?_)
  · refine jv_le_row (jv_le_s (jv_le_n (jv_le_n (jv_le_n (jv_le_nil))))) ?_
    exact o_f_X13_number_b22 _ _ 
  · show jv_O _ _ _ _ 13 _ _ _ _
    refine jv_aload_n (jv_dk t_X13_number (k := 7) rfl) rfl rfl (Or.inr ⟨_, rfl⟩) ?_
    refine jv_iconst (v := 0) (jv_dk t_X13_number (k := 8) rfl) (by decide) ?_
    refine jv_iload_n (jv_dk t_X13_number (k := 9) rfl) rfl rfl ?_
    refine jv_callV (en' := jeI) (pv := jpI) (As := [.int (0), .int (a2)]) (S := []) (jv_dk t_X13_number (k := 10) rfl) (fun _ => rfl) (Or.inl lk_X13_254) me_X13_isSpace mv_X13_isSpace ⟨by decide, by decide⟩ rfl rfl rfl (Nat.le_of_ble_eq_true rfl) (P_X13_isSpace X a0 0 a2 h3) (fun v7 h8 => ?_)
    show jv_O X M_X13_number _ jeI 19 [some (.ref (a0)), some (.int (a1)), some (.int (a2)), none] [.int (v7)] h8 _
    refine jv_if_ne (tgt := 28) (jv_dk t_X13_number (k := 11) rfl) rfl (fun c9 => ?_) (fun c9 => ?_)
    · refine jv_aload_n (jv_dk t_X13_number (k := 16) rfl) rfl rfl (Or.inr ⟨_, rfl⟩) ?_
      refine jv_iload_n (jv_dk t_X13_number (k := 17) rfl) rfl rfl ?_
      refine jv_iload_n (jv_dk t_X13_number (k := 18) rfl) rfl rfl ?_
      refine jv_callV (en' := jeI) (pv := jpI) (As := [.int (a1), .int (a2)]) (S := []) (jv_dk t_X13_number (k := 19) rfl) (fun _ => rfl) (Or.inl lk_X13_214) me_X13_numberOf mv_X13_numberOf ⟨by decide, by decide⟩ rfl rfl rfl (Nat.le_of_ble_eq_true rfl) (P_X13_numberOf X a0 a1 a2 h8) (fun v10 h11 => ?_)
      show jv_O X M_X13_number _ jeI 34 [some (.ref (a0)), some (.int (a1)), some (.int (a2)), none] [.int (v10)] h11 _
      refine jv_istore_n (L' := [some (.ref (a0)), some (.int (a1)), some (.int (a2)), some (.int (v10))]) (jv_dk t_X13_number (k := 20) rfl) rfl (Nat.le_of_ble_eq_true rfl) rfl ?_
      refine jv_iload_n (jv_dk t_X13_number (k := 21) rfl) rfl rfl ?_
      refine jv_if_ne (tgt := 43) (jv_dk t_X13_number (k := 22) rfl) rfl (fun c12 => ?_) (fun c12 => ?_)
      · refine jv_iload_n (jv_dk t_X13_number (k := 25) rfl) rfl rfl ?_
        exact jv_iret (ty := .int) (jv_dk t_X13_number (k := 26) rfl) rfl rfl rfl
      · show jv_O _ _ _ _ 39 _ _ _ _
        refine jv_iconst (v := (-1)) (jv_dk t_X13_number (k := 23) rfl) (by decide) ?_
        refine jv_goto (tgt := 44) (jv_dk t_X13_number (k := 24) rfl) rfl ?_
        exact jv_iret (ty := .int) (jv_dk t_X13_number (k := 26) rfl) rfl rfl rfl
    · show jv_O _ _ _ _ 22 _ _ _ _
      refine jv_le_row (jv_le_s (jv_le_n (jv_le_n (jv_le_n (jv_le_nil))))) ?_
      exact o_f_X13_number_b22 _ _ 
def t0_X13_listed : List (Nat × Instr × Nat) := [(0, .aload_n 0, 1), (1, .iconst 0, 1), (2, .putfield 96, 3), (5, .aload_n 0, 1), (6, .iconst 0, 1), (7, .iload_n 1, 1), (8, .invokevirtual 254, 3), (11, .ifCond .ne 9, 3), (14, .aload_n 0, 1), (15, .iconst 1, 1), (16, .invokevirtual 185, 3), (19, .ireturn, 1), (20, .iconst 0, 1), (21, .istore_n 3, 1), (22, .iconst 1, 1), (23, .istore 4, 2), (25, .iload 4, 2), (27, .bipush 20, 2), (29, .if_icmp .gt 38, 3), (32, .aload_n 0, 1), (33, .iload_n 1, 1), (34, .iload 4, 2), (36, .invokevirtual 238, 3), (39, .istore 5, 2), (41, .iload 5, 2), (43, .iconst (-1), 1), (44, .if_icmp .ne 6, 3), (47, .goto 14, 3), (50, .iload_n 3, 1), (51, .iload_n 2, 1), (52, .if_icmp .ne 6, 3), (55, .iload 5, 2), (57, .ireturn, 1), (58, .iinc 3 1, 3), (61, .iinc 4 1, 3), (64, .goto (-39), 3), (67, .iload_n 2, 1), (68, .iconst (-1), 1), (69, .if_icmp .ne 7, 3), (72, .iload_n 3, 1), (73, .goto 8, 3), (76, .aload_n 0, 1), (77, .iconst 1, 1), (78, .invokevirtual 185, 3), (81, .ireturn, 1)]
theorem t_X13_listed : jv_dec cX13_listed t0_X13_listed = true := by decide +kernel
def M_X13_listed : jm := (yX13_listed, cX13_listed, 6, (some .int), 3, 66, [])
def f_X13_listed_h25 (K25 : Nat → Int32 → Int32 → jh → Option (Int32 × jh)) (R25 : Nat → Int32 → Int32 → Int32 → Int32 → jh → Option (Int32 × jh)) (x0 : Nat) (x1 : Int32) (x2 : Int32) (x3 : Int32) (x4 : Int32) (h : jh) : Option (Int32 × jh) :=
  (if 20 < x4 then
  K25 x0 x2 x3 h
  else
  cV h x0 11 (f_X13_whose x0 x1 x4 h) fun v6 h7 =>
  (if ¬ v6 = (-1) then
  (if ¬ x3 = x2 then
  R25 x0 x1 x2 (x3 + 1) (x4 + 1) h7
  else
  some (v6, h7))
  else
  R25 x0 x1 x2 x3 (x4 + 1) h7))
theorem o_f_X13_listed_h25 {X : jx} {b0 : Nat × Nat} {K25 : Nat → Int32 → Int32 → jh → Option (Int32 × jh)} (hK25 : ∀ (x0 : Nat) (x2 : Int32) (x3 : Int32) (h : jh), jv_O X M_X13_listed b0 jeI 67 [some (.ref (x0)), none, some (.int (x2)), some (.int (x3)), none, none] [] h (K25 x0 x2 x3 h)) : ∀ (x0 : Nat) (x1 : Int32) (x2 : Int32) (x3 : Int32) (x4 : Int32) (h : jh), jv_O X M_X13_listed b0 jeI 25 [some (.ref (x0)), some (.int (x1)), some (.int (x2)), some (.int (x3)), some (.int (x4)), none] [] h (jlp5 (f_X13_listed_h25 K25) jfu x0 x1 x2 x3 x4 h) := by
  refine jlp5_ok (P := fun x0 x1 x2 x3 x4 h o => jv_O X M_X13_listed b0 jeI 25 [some (.ref (x0)), some (.int (x1)), some (.int (x2)), some (.int (x3)), some (.int (x4)), none] [] h o) (fun R25 hR25 => ?_) (fun _ _ _ _ _ _  => jv_none rfl) jfu
  intro x0 x1 x2 x3 x4 h
  unfold f_X13_listed_h25
  refine jv_iload (jv_dk t_X13_listed (k := 16) rfl) rfl ?_
  refine jv_bipush (v := 20) (jv_dk t_X13_listed (k := 17) rfl) (by decide) ?_
  refine jv_icmp_gt (tgt := 67) (jv_dk t_X13_listed (k := 18) rfl) rfl (fun c5 => ?_) (fun c5 => ?_)
  · refine jv_le_row (jv_le_s (jv_le_n (jv_le_s (jv_le_s (jv_le_n (jv_le_n (jv_le_nil))))))) ?_
    exact hK25 _ _ _ _ 
  · show jv_O _ _ _ _ 32 _ _ _ _
    refine jv_aload_n (jv_dk t_X13_listed (k := 19) rfl) rfl rfl (Or.inr ⟨_, rfl⟩) ?_
    refine jv_iload_n (jv_dk t_X13_listed (k := 20) rfl) rfl rfl ?_
    refine jv_iload (jv_dk t_X13_listed (k := 21) rfl) rfl ?_
    refine jv_callV (en' := jeI) (pv := jpI) (As := [.int (x1), .int (x4)]) (S := []) (jv_dk t_X13_listed (k := 22) rfl) (fun _ => rfl) (Or.inl lk_X13_238) me_X13_whose mv_X13_whose ⟨by decide, by decide⟩ rfl rfl rfl (Nat.le_of_ble_eq_true rfl) (P_X13_whose X x0 x1 x4 h) (fun v6 h7 => ?_)
    show jv_O X M_X13_listed _ jeI 39 [some (.ref (x0)), some (.int (x1)), some (.int (x2)), some (.int (x3)), some (.int (x4)), none] [.int (v6)] h7 _
    refine jv_istore (L' := [some (.ref (x0)), some (.int (x1)), some (.int (x2)), some (.int (x3)), some (.int (x4)), some (.int (v6))]) (jv_dk t_X13_listed (k := 23) rfl) (Nat.le_of_ble_eq_true rfl) rfl ?_
    refine jv_iload (jv_dk t_X13_listed (k := 24) rfl) rfl ?_
    refine jv_iconst (v := (-1)) (jv_dk t_X13_listed (k := 25) rfl) (by decide) ?_
    refine jv_icmp_ne (tgt := 50) (jv_dk t_X13_listed (k := 26) rfl) rfl (fun c8 => ?_) (fun c8 => ?_)
    · refine jv_iload_n (jv_dk t_X13_listed (k := 28) rfl) rfl rfl ?_
      refine jv_iload_n (jv_dk t_X13_listed (k := 29) rfl) rfl rfl ?_
      refine jv_icmp_ne (tgt := 58) (jv_dk t_X13_listed (k := 30) rfl) rfl (fun c9 => ?_) (fun c9 => ?_)
      · refine jv_iinc (v := 1) (L' := [some (.ref (x0)), some (.int (x1)), some (.int (x2)), some (.int (x3 + 1)), some (.int (x4)), some (.int (v6))]) (jv_dk t_X13_listed (k := 33) rfl) rfl (by decide) rfl ?_
        refine jv_iinc (v := 1) (L' := [some (.ref (x0)), some (.int (x1)), some (.int (x2)), some (.int (x3 + 1)), some (.int (x4 + 1)), some (.int (v6))]) (jv_dk t_X13_listed (k := 34) rfl) rfl (by decide) rfl ?_
        refine jv_goto (tgt := 25) (jv_dk t_X13_listed (k := 35) rfl) rfl ?_
        refine jv_le_row (jv_le_s (jv_le_s (jv_le_s (jv_le_s (jv_le_s (jv_le_n (jv_le_nil))))))) ?_
        exact hR25 _ _ _ _ _ _ 
      · show jv_O _ _ _ _ 55 _ _ _ _
        refine jv_iload (jv_dk t_X13_listed (k := 31) rfl) rfl ?_
        exact jv_iret (ty := .int) (jv_dk t_X13_listed (k := 32) rfl) rfl rfl rfl
    · show jv_O _ _ _ _ 47 _ _ _ _
      refine jv_goto (tgt := 61) (jv_dk t_X13_listed (k := 27) rfl) rfl ?_
      refine jv_iinc (v := 1) (L' := [some (.ref (x0)), some (.int (x1)), some (.int (x2)), some (.int (x3)), some (.int (x4 + 1)), some (.int (v6))]) (jv_dk t_X13_listed (k := 34) rfl) rfl (by decide) rfl ?_
      refine jv_goto (tgt := 25) (jv_dk t_X13_listed (k := 35) rfl) rfl ?_
      refine jv_le_row (jv_le_s (jv_le_s (jv_le_s (jv_le_s (jv_le_s (jv_le_n (jv_le_nil))))))) ?_
      exact hR25 _ _ _ _ _ _ 
def f_X13_listed (a0 : Nat) (a1 : Int32) (a2 : Int32) (h : jh) : Option (Int32 × jh) :=
  pV h a0 11 1 (.int (0)) fun h1 =>
  cV h1 a0 11 (f_X13_isSpace a0 0 a1 h1) fun v2 h3 =>
  (if ¬ v2 = 0 then
  jlp5 (f_X13_listed_h25 (fun y11 y12 y13 h10 =>
  (if ¬ y12 = (-1) then
  cV h10 y11 11 (f_X13_fail y11 1 h10) fun v15 h16 =>
  some (v15, h16)
  else
  some (y13, h10)))) jfu a0 a1 a2 0 1 h3
  else
  cV h3 a0 11 (f_X13_fail a0 1 h3) fun v17 h18 =>
  some (v17, h18))
theorem P_X13_listed (X : jx) (a0 : Nat) (a1 : Int32) (a2 : Int32) (h : jh) : jv_P X M_X13_listed jeI [.ref (a0), .int (a1), .int (a2)] h (f_X13_listed a0 a1 a2 h) := by
  refine jv_P.of (by decide) rfl (by simp [Value.category]) (Nat.le_of_ble_eq_true rfl) ?_
  show jv_O X M_X13_listed (h.1, h.2.1) jeI 0 [some (.ref (a0)), some (.int (a1)), some (.int (a2)), none, none, none] [] h (f_X13_listed a0 a1 a2 h)
  unfold f_X13_listed
  refine jv_aload_n (jv_dk t_X13_listed (k := 0) rfl) rfl rfl (Or.inr ⟨_, rfl⟩) ?_
  refine jv_iconst (v := 0) (jv_dk t_X13_listed (k := 1) rfl) (by decide) ?_
  refine jv_pV (jv_dk t_X13_listed (k := 2) rfl) fl_X13_96 kX13 (Or.inl rfl) rfl rfl rfl (fun h1 => ?_)
  refine jv_aload_n (jv_dk t_X13_listed (k := 3) rfl) rfl rfl (Or.inr ⟨_, rfl⟩) ?_
  refine jv_iconst (v := 0) (jv_dk t_X13_listed (k := 4) rfl) (by decide) ?_
  refine jv_iload_n (jv_dk t_X13_listed (k := 5) rfl) rfl rfl ?_
  refine jv_callV (en' := jeI) (pv := jpI) (As := [.int (0), .int (a1)]) (S := []) (jv_dk t_X13_listed (k := 6) rfl) (fun _ => rfl) (Or.inl lk_X13_254) me_X13_isSpace mv_X13_isSpace ⟨by decide, by decide⟩ rfl rfl rfl (Nat.le_of_ble_eq_true rfl) (P_X13_isSpace X a0 0 a1 h1) (fun v2 h3 => ?_)
  show jv_O X M_X13_listed _ jeI 11 [some (.ref (a0)), some (.int (a1)), some (.int (a2)), none, none, none] [.int (v2)] h3 _
  refine jv_if_ne (tgt := 20) (jv_dk t_X13_listed (k := 7) rfl) rfl (fun c4 => ?_) (fun c4 => ?_)
  · refine jv_iconst (v := 0) (jv_dk t_X13_listed (k := 12) rfl) (by decide) ?_
    refine jv_istore_n (L' := [some (.ref (a0)), some (.int (a1)), some (.int (a2)), some (.int (0)), none, none]) (jv_dk t_X13_listed (k := 13) rfl) rfl (Nat.le_of_ble_eq_true rfl) rfl ?_
    refine jv_iconst (v := 1) (jv_dk t_X13_listed (k := 14) rfl) (by decide) ?_
    refine jv_istore (L' := [some (.ref (a0)), some (.int (a1)), some (.int (a2)), some (.int (0)), some (.int (1)), none]) (jv_dk t_X13_listed (k := 15) rfl) (Nat.le_of_ble_eq_true rfl) rfl ?_
    refine o_f_X13_listed_h25 (fun y11 y12 y13 h10 => ?_) _ _ _ _ _ _ 
    show jv_O X M_X13_listed _ jeI 67 [some (.ref (y11)), none, some (.int (y12)), some (.int (y13)), none, none] [] h10 _
    refine jv_iload_n (jv_dk t_X13_listed (k := 36) rfl) rfl rfl ?_
    refine jv_iconst (v := (-1)) (jv_dk t_X13_listed (k := 37) rfl) (by decide) ?_
    refine jv_icmp_ne (tgt := 76) (jv_dk t_X13_listed (k := 38) rfl) rfl (fun c14 => ?_) (fun c14 => ?_)
    · refine jv_aload_n (jv_dk t_X13_listed (k := 41) rfl) rfl rfl (Or.inr ⟨_, rfl⟩) ?_
      refine jv_iconst (v := 1) (jv_dk t_X13_listed (k := 42) rfl) (by decide) ?_
      refine jv_callV (en' := jeI) (pv := jpI) (As := [.int (1)]) (S := []) (jv_dk t_X13_listed (k := 43) rfl) (fun _ => rfl) (Or.inl lk_X13_185) me_X13_fail mv_X13_fail ⟨by decide, by decide⟩ rfl rfl rfl (Nat.le_of_ble_eq_true rfl) (P_X13_fail X y11 1 h10) (fun v15 h16 => ?_)
      show jv_O X M_X13_listed _ jeI 81 [some (.ref (y11)), none, some (.int (y12)), some (.int (y13)), none, none] [.int (v15)] h16 _
      exact jv_iret (ty := .int) (jv_dk t_X13_listed (k := 44) rfl) rfl rfl rfl
    · show jv_O _ _ _ _ 72 _ _ _ _
      refine jv_iload_n (jv_dk t_X13_listed (k := 39) rfl) rfl rfl ?_
      refine jv_goto (tgt := 81) (jv_dk t_X13_listed (k := 40) rfl) rfl ?_
      exact jv_iret (ty := .int) (jv_dk t_X13_listed (k := 44) rfl) rfl rfl rfl
  · show jv_O _ _ _ _ 14 _ _ _ _
    refine jv_aload_n (jv_dk t_X13_listed (k := 8) rfl) rfl rfl (Or.inr ⟨_, rfl⟩) ?_
    refine jv_iconst (v := 1) (jv_dk t_X13_listed (k := 9) rfl) (by decide) ?_
    refine jv_callV (en' := jeI) (pv := jpI) (As := [.int (1)]) (S := []) (jv_dk t_X13_listed (k := 10) rfl) (fun _ => rfl) (Or.inl lk_X13_185) me_X13_fail mv_X13_fail ⟨by decide, by decide⟩ rfl rfl rfl (Nat.le_of_ble_eq_true rfl) (P_X13_fail X a0 1 h3) (fun v17 h18 => ?_)
    show jv_O X M_X13_listed _ jeI 19 [some (.ref (a0)), some (.int (a1)), some (.int (a2)), none, none, none] [.int (v17)] h18 _
    exact jv_iret (ty := .int) (jv_dk t_X13_listed (k := 11) rfl) rfl rfl rfl
