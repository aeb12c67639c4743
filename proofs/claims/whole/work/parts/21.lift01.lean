def t0_X4_init : List (Nat × Instr × Nat) := [(0, .aload_n 0, 1), (1, .invokespecial 3, 3), (4, .aload_n 0, 1), (5, .new 9, 3), (8, .dup, 1), (9, .invokespecial 11, 3), (12, .putfield 12, 3), (15, .aload_n 0, 1), (16, .bipush 8, 2), (18, .newarray .int, 2), (20, .putfield 18, 3), (23, .aload_n 0, 1), (24, .bipush 8, 2), (26, .newarray .int, 2), (28, .putfield 22, 3), (31, .aload_n 0, 1), (32, .bipush 8, 2), (34, .newarray .int, 2), (36, .putfield 25, 3), (39, .iconst 0, 1), (40, .istore_n 1, 1), (41, .iload_n 1, 1), (42, .bipush 8, 2), (44, .if_icmp .ge 23, 3), (47, .aload_n 0, 1), (48, .getfield 22, 3), (51, .iload_n 1, 1), (52, .iconst 1, 1), (53, .iastore, 1), (54, .aload_n 0, 1), (55, .getfield 25, 3), (58, .iload_n 1, 1), (59, .iconst (-1), 1), (60, .iastore, 1), (61, .iinc 1 1, 3), (64, .goto (-23), 3), (67, .aload_n 0, 1), (68, .getfield 25, 3), (71, .iconst 0, 1), (72, .iconst 0, 1), (73, .iastore, 1), (74, .return_, 1)]
theorem t_X4_init : jv_dec cX4_init t0_X4_init = true := by decide +kernel
def M_X4_init : jm := (yX4_init, cX4_init, 2, none, 2, 40, [])
theorem oi_X4_3 : Cond.methodLink RX4 3 Lib.objectInit ∈ lw_tbl := (jv_at 268 (by decide +kernel))
theorem ck_X4_9 : Cond.classLink RX4 9 RX9 ∈ lw_tbl := (jv_at 269 (by decide +kernel))
theorem lk_X4_11 : jv_lk RX4 11 M_X9_init := Or.inr ⟨"SpaceWarden", (jv_at 271 (by decide +kernel))⟩
theorem fl_X4_12 : jv_F RX4 12 2 0 RX4 TX4 4 := ⟨rfl, by decide, inX4, Or.inl (jv_at 284 (by decide +kernel))⟩
theorem ff_X4_12 : Cond.fieldLink RX4 12 (TX4 0).1 (TX4 0).2.1 (TX4 0).2.2.1 ∈ lw_tbl := (jv_at 284 (by decide +kernel))
theorem fl_X4_18 : jv_F RX4 18 2 1 RX4 TX4 4 := ⟨rfl, by decide, inX4, Or.inl (jv_at 288 (by decide +kernel))⟩
theorem ff_X4_18 : Cond.fieldLink RX4 18 (TX4 1).1 (TX4 1).2.1 (TX4 1).2.2.1 ∈ lw_tbl := (jv_at 288 (by decide +kernel))
theorem fl_X4_22 : jv_F RX4 22 2 2 RX4 TX4 4 := ⟨rfl, by decide, inX4, Or.inl (jv_at 290 (by decide +kernel))⟩
theorem ff_X4_22 : Cond.fieldLink RX4 22 (TX4 2).1 (TX4 2).2.1 (TX4 2).2.2.1 ∈ lw_tbl := (jv_at 290 (by decide +kernel))
theorem fl_X4_25 : jv_F RX4 25 2 3 RX4 TX4 4 := ⟨rfl, by decide, inX4, Or.inl (jv_at 292 (by decide +kernel))⟩
theorem ff_X4_25 : Cond.fieldLink RX4 25 (TX4 3).1 (TX4 3).2.1 (TX4 3).2.2.1 ∈ lw_tbl := (jv_at 292 (by decide +kernel))
def f_X4_init_h41 (K41 : Nat → jh → Option (Unit × jh)) (R41 : Nat → Int32 → jh → Option (Unit × jh)) (x0 : Nat) (x1 : Int32) (h : jh) : Option (Unit × jh) :=
  (if 8 ≤ x1 then
  K41 x0 h
  else
  gR h x0 2 2 fun v15 =>
  sI h v15 x1 1 fun h16 =>
  gR h16 x0 2 3 fun v17 =>
  sI h16 v17 x1 (-1) fun h18 =>
  R41 x0 (x1 + 1) h18)
theorem o_f_X4_init_h41 {X : jx} {b0 : Nat × Nat} {K41 : Nat → jh → Option (Unit × jh)} (hK41 : ∀ (x0 : Nat) (h : jh), jv_O X M_X4_init b0 jeV 67 [some (.ref (x0)), none] [] h (K41 x0 h)) : ∀ (x0 : Nat) (x1 : Int32) (h : jh), jv_O X M_X4_init b0 jeV 41 [some (.ref (x0)), some (.int (x1))] [] h (jlp2 (f_X4_init_h41 K41) jfu x0 x1 h) := by
  refine jlp2_ok (P := fun x0 x1 h o => jv_O X M_X4_init b0 jeV 41 [some (.ref (x0)), some (.int (x1))] [] h o) (fun R41 hR41 => ?_) (fun _ _ _  => jv_none rfl) jfu
  intro x0 x1 h
  unfold f_X4_init_h41
  refine jv_iload_n (jv_dk t_X4_init (k := 21) rfl) rfl rfl ?_
  refine jv_bipush (v := 8) (jv_dk t_X4_init (k := 22) rfl) (by decide) ?_
  refine jv_icmp_ge (tgt := 67) (jv_dk t_X4_init (k := 23) rfl) rfl (fun c14 => ?_) (fun c14 => ?_)
  · refine jv_le_row (jv_le_s (jv_le_n (jv_le_nil))) ?_
    exact hK41 _ _ 
  · show jv_O _ _ _ _ 47 _ _ _ _
    refine jv_aload_n (jv_dk t_X4_init (k := 24) rfl) rfl rfl (Or.inr ⟨_, rfl⟩) ?_
    refine jv_gR (jv_dk t_X4_init (k := 25) rfl) fl_X4_22 (fun v15 => ?_)
    refine jv_iload_n (jv_dk t_X4_init (k := 26) rfl) rfl rfl ?_
    refine jv_iconst (v := 1) (jv_dk t_X4_init (k := 27) rfl) (by decide) ?_
    refine jv_iastore (jv_dk t_X4_init (k := 28) rfl) (fun h16 => ?_)
    refine jv_aload_n (jv_dk t_X4_init (k := 29) rfl) rfl rfl (Or.inr ⟨_, rfl⟩) ?_
    refine jv_gR (jv_dk t_X4_init (k := 30) rfl) fl_X4_25 (fun v17 => ?_)
    refine jv_iload_n (jv_dk t_X4_init (k := 31) rfl) rfl rfl ?_
    refine jv_iconst (v := (-1)) (jv_dk t_X4_init (k := 32) rfl) (by decide) ?_
    refine jv_iastore (jv_dk t_X4_init (k := 33) rfl) (fun h18 => ?_)
    refine jv_iinc (v := 1) (L' := [some (.ref (x0)), some (.int (x1 + 1))]) (jv_dk t_X4_init (k := 34) rfl) rfl (by decide) rfl ?_
    refine jv_goto (tgt := 41) (jv_dk t_X4_init (k := 35) rfl) rfl ?_
    exact hR41 _ _ _ 
def f_X4_init (a0 : Nat) (h : jh) : Option (Unit × jh) :=
  nO h 7 2 [.null, .int 0] fun q1 h2 =>
  bd (f_X9_init q1 h2) fun _ h3 =>
  pV h3 a0 2 0 (.ref (q1)) fun h4 =>
  nI4 h4 8 fun q5 h6 =>
  pV h6 a0 2 1 (.ref (q5)) fun h7 =>
  nI4 h7 8 fun q8 h9 =>
  pV h9 a0 2 2 (.ref (q8)) fun h10 =>
  nI4 h10 8 fun q11 h12 =>
  pV h12 a0 2 3 (.ref (q11)) fun h13 =>
  jlp2 (f_X4_init_h41 (fun y20 h19 =>
  gR h19 y20 2 3 fun v21 =>
  sI h19 v21 0 0 fun h22 =>
  some ((), h22))) jfu a0 0 h13
theorem P_X4_init (X : jx) (a0 : Nat) (h : jh) : jv_P X M_X4_init jeV [.ref (a0)] h (f_X4_init a0 h) := by
  refine jv_P.of (by decide) rfl (by simp [Value.category]) (Nat.le_of_ble_eq_true rfl) ?_
  show jv_O X M_X4_init (h.1, h.2.1) jeV 0 [some (.ref (a0)), none] [] h (f_X4_init a0 h)
  unfold f_X4_init
  refine jv_aload_n (jv_dk t_X4_init (k := 0) rfl) rfl rfl (Or.inr ⟨_, rfl⟩) ?_
  refine jv_obj (jv_dk t_X4_init (k := 1) rfl) oi_X4_3 oi_2 oi_3 (Nat.le_of_ble_eq_true rfl) ⟨by decide, by decide⟩ ?_
  refine jv_aload_n (jv_dk t_X4_init (k := 2) rfl) rfl rfl (Or.inr ⟨_, rfl⟩) ?_
  refine jv_new (jv_dk t_X4_init (k := 3) rfl) kX9 ck_X4_9 ib_X9 iz_X9 df_X9 (fun q1 h2 => ?_)
  refine jv_dup (jv_dk t_X4_init (k := 4) rfl) rfl ?_
  refine jv_callI (en' := jeV) (pv := jpV) (As := []) (S := [.ref (q1), .ref (a0)]) (jv_dk t_X4_init (k := 5) rfl) (fun _ => rfl) lk_X4_11 me_X9_init mi_X9_init rfl rfl ⟨by decide, by decide⟩ rfl rfl (Nat.le_of_ble_eq_true rfl) (P_X9_init X q1 h2) (fun _ h3 => ?_)
  show jv_O X M_X4_init _ jeV 12 [some (.ref (a0)), none] [.ref (q1), .ref (a0)] h3 _
  refine jv_pV (jv_dk t_X4_init (k := 6) rfl) fl_X4_12 kX4 (Or.inr ⟨rfl, rfl, rfl, ff_X4_12⟩) rfl rfl rfl (fun h4 => ?_)
  refine jv_aload_n (jv_dk t_X4_init (k := 7) rfl) rfl rfl (Or.inr ⟨_, rfl⟩) ?_
  refine jv_bipush (v := 8) (jv_dk t_X4_init (k := 8) rfl) (by decide) ?_
  refine jv_newI (jv_dk t_X4_init (k := 9) rfl) ac_I (fun q5 h6 => ?_)
  refine jv_pV (jv_dk t_X4_init (k := 10) rfl) fl_X4_18 kX4 (Or.inr ⟨rfl, rfl, rfl, ff_X4_18⟩) rfl rfl rfl (fun h7 => ?_)
  refine jv_aload_n (jv_dk t_X4_init (k := 11) rfl) rfl rfl (Or.inr ⟨_, rfl⟩) ?_
  refine jv_bipush (v := 8) (jv_dk t_X4_init (k := 12) rfl) (by decide) ?_
  refine jv_newI (jv_dk t_X4_init (k := 13) rfl) ac_I (fun q8 h9 => ?_)
  refine jv_pV (jv_dk t_X4_init (k := 14) rfl) fl_X4_22 kX4 (Or.inr ⟨rfl, rfl, rfl, ff_X4_22⟩) rfl rfl rfl (fun h10 => ?_)
  refine jv_aload_n (jv_dk t_X4_init (k := 15) rfl) rfl rfl (Or.inr ⟨_, rfl⟩) ?_
  refine jv_bipush (v := 8) (jv_dk t_X4_init (k := 16) rfl) (by decide) ?_
  refine jv_newI (jv_dk t_X4_init (k := 17) rfl) ac_I (fun q11 h12 => ?_)
  refine jv_pV (jv_dk t_X4_init (k := 18) rfl) fl_X4_25 kX4 (Or.inr ⟨rfl, rfl, rfl, ff_X4_25⟩) rfl rfl rfl (fun h13 => ?_)
  refine jv_iconst (v := 0) (jv_dk t_X4_init (k := 19) rfl) (by decide) ?_
  refine jv_istore_n (L' := [some (.ref (a0)), some (.int (0))]) (jv_dk t_X4_init (k := 20) rfl) rfl (Nat.le_of_ble_eq_true rfl) rfl ?_
  refine o_f_X4_init_h41 (fun y20 h19 => ?_) _ _ _ 
  show jv_O X M_X4_init _ jeV 67 [some (.ref (y20)), none] [] h19 _
  refine jv_aload_n (jv_dk t_X4_init (k := 36) rfl) rfl rfl (Or.inr ⟨_, rfl⟩) ?_
  refine jv_gR (jv_dk t_X4_init (k := 37) rfl) fl_X4_25 (fun v21 => ?_)
  refine jv_iconst (v := 0) (jv_dk t_X4_init (k := 38) rfl) (by decide) ?_
  refine jv_iconst (v := 0) (jv_dk t_X4_init (k := 39) rfl) (by decide) ?_
  refine jv_iastore (jv_dk t_X4_init (k := 40) rfl) (fun h22 => ?_)
  exact jv_vret (jv_dk t_X4_init (k := 41) rfl) rfl rfl
def t0_X4_copy : List (Nat × Instr × Nat) := [(0, .aload_n 0, 1), (1, .getfield 12, 3), (4, .aload_n 1, 1), (5, .getfield 12, 3), (8, .invokevirtual 28, 3), (11, .aload_n 1, 1), (12, .getfield 18, 3), (15, .aload_n 0, 1), (16, .getfield 18, 3), (19, .invokestatic 32, 3), (22, .aload_n 1, 1), (23, .getfield 22, 3), (26, .aload_n 0, 1), (27, .getfield 22, 3), (30, .invokestatic 32, 3), (33, .aload_n 1, 1), (34, .getfield 25, 3), (37, .aload_n 0, 1), (38, .getfield 25, 3), (41, .invokestatic 32, 3), (44, .return_, 1)]
theorem t_X4_copy : jv_dec cX4_copy t0_X4_copy = true := by decide +kernel
def M_X4_copy : jm := (yX4_copy, cX4_copy, 2, none, 3, 82, [])
theorem lk_X4_28 : jv_lk RX4 28 M_X9_copy := Or.inr ⟨"SpaceWarden", (jv_at 565 (by decide +kernel))⟩
theorem lk_X4_32 : jv_lk RX4 32 M_X12_copyRow := Or.inr ⟨"SpaceWarden", (jv_at 570 (by decide +kernel))⟩
def f_X4_copy (a0 : Nat) (a1 : Nat) (h : jh) : Option (Unit × jh) :=
  gR h a0 2 0 fun v1 =>
  gR h a1 2 0 fun v2 =>
  cV h v1 7 (f_X9_copy v1 v2 h) fun _ h3 =>
  gR h3 a1 2 1 fun v4 =>
  gR h3 a0 2 1 fun v5 =>
  bd (f_X12_copyRow v4 v5 h3) fun _ h6 =>
  gR h6 a1 2 2 fun v7 =>
  gR h6 a0 2 2 fun v8 =>
  bd (f_X12_copyRow v7 v8 h6) fun _ h9 =>
  gR h9 a1 2 3 fun v10 =>
  gR h9 a0 2 3 fun v11 =>
  bd (f_X12_copyRow v10 v11 h9) fun _ h12 =>
  some ((), h12)
theorem P_X4_copy (X : jx) (a0 : Nat) (a1 : Nat) (h : jh) : jv_P X M_X4_copy jeV [.ref (a0), .ref (a1)] h (f_X4_copy a0 a1 h) := by
  refine jv_P.of (by decide) rfl (by simp [Value.category]) (Nat.le_of_ble_eq_true rfl) ?_
  show jv_O X M_X4_copy (h.1, h.2.1) jeV 0 [some (.ref (a0)), some (.ref (a1))] [] h (f_X4_copy a0 a1 h)
  unfold f_X4_copy
  refine jv_aload_n (jv_dk t_X4_copy (k := 0) rfl) rfl rfl (Or.inr ⟨_, rfl⟩) ?_
  refine jv_gR (jv_dk t_X4_copy (k := 1) rfl) fl_X4_12 (fun v1 => ?_)
  refine jv_aload_n (jv_dk t_X4_copy (k := 2) rfl) rfl rfl (Or.inr ⟨_, rfl⟩) ?_
  refine jv_gR (jv_dk t_X4_copy (k := 3) rfl) fl_X4_12 (fun v2 => ?_)
  refine jv_callV (en' := jeV) (pv := jpV) (As := [.ref (v2)]) (S := []) (jv_dk t_X4_copy (k := 4) rfl) (fun _ => rfl) lk_X4_28 me_X9_copy mv_X9_copy ⟨by decide, by decide⟩ rfl rfl rfl (Nat.le_of_ble_eq_true rfl) (P_X9_copy X v1 v2 h) (fun _ h3 => ?_)
  show jv_O X M_X4_copy _ jeV 11 [some (.ref (a0)), some (.ref (a1))] [] h3 _
  refine jv_aload_n (jv_dk t_X4_copy (k := 5) rfl) rfl rfl (Or.inr ⟨_, rfl⟩) ?_
  refine jv_gR (jv_dk t_X4_copy (k := 6) rfl) fl_X4_18 (fun v4 => ?_)
  refine jv_aload_n (jv_dk t_X4_copy (k := 7) rfl) rfl rfl (Or.inr ⟨_, rfl⟩) ?_
  refine jv_gR (jv_dk t_X4_copy (k := 8) rfl) fl_X4_18 (fun v5 => ?_)
  refine jv_callS (en' := jeV) (pv := jpV) (As := [.ref (v4), .ref (v5)]) (S := []) (jv_dk t_X4_copy (k := 9) rfl) (fun _ => rfl) lk_X4_32 me_X12_copyRow ms_X12_copyRow ⟨by decide, by decide⟩ rfl rfl (Nat.le_of_ble_eq_true rfl) (P_X12_copyRow X v4 v5 h3) (fun _ h6 => ?_)
  show jv_O X M_X4_copy _ jeV 22 [some (.ref (a0)), some (.ref (a1))] [] h6 _
  refine jv_aload_n (jv_dk t_X4_copy (k := 10) rfl) rfl rfl (Or.inr ⟨_, rfl⟩) ?_
  refine jv_gR (jv_dk t_X4_copy (k := 11) rfl) fl_X4_22 (fun v7 => ?_)
  refine jv_aload_n (jv_dk t_X4_copy (k := 12) rfl) rfl rfl (Or.inr ⟨_, rfl⟩) ?_
  refine jv_gR (jv_dk t_X4_copy (k := 13) rfl) fl_X4_22 (fun v8 => ?_)
  refine jv_callS (en' := jeV) (pv := jpV) (As := [.ref (v7), .ref (v8)]) (S := []) (jv_dk t_X4_copy (k := 14) rfl) (fun _ => rfl) lk_X4_32 me_X12_copyRow ms_X12_copyRow ⟨by decide, by decide⟩ rfl rfl (Nat.le_of_ble_eq_true rfl) (P_X12_copyRow X v7 v8 h6) (fun _ h9 => ?_)
  show jv_O X M_X4_copy _ jeV 33 [some (.ref (a0)), some (.ref (a1))] [] h9 _
  refine jv_aload_n (jv_dk t_X4_copy (k := 15) rfl) rfl rfl (Or.inr ⟨_, rfl⟩) ?_
  refine jv_gR (jv_dk t_X4_copy (k := 16) rfl) fl_X4_25 (fun v10 => ?_)
  refine jv_aload_n (jv_dk t_X4_copy (k := 17) rfl) rfl rfl (Or.inr ⟨_, rfl⟩) ?_
  refine jv_gR (jv_dk t_X4_copy (k := 18) rfl) fl_X4_25 (fun v11 => ?_)
  refine jv_callS (en' := jeV) (pv := jpV) (As := [.ref (v10), .ref (v11)]) (S := []) (jv_dk t_X4_copy (k := 19) rfl) (fun _ => rfl) lk_X4_32 me_X12_copyRow ms_X12_copyRow ⟨by decide, by decide⟩ rfl rfl (Nat.le_of_ble_eq_true rfl) (P_X12_copyRow X v10 v11 h9) (fun _ h12 => ?_)
  show jv_O X M_X4_copy _ jeV 44 [some (.ref (a0)), some (.ref (a1))] [] h12 _
  exact jv_vret (jv_dk t_X4_copy (k := 20) rfl) rfl rfl
def t0_X4_isDead : List (Nat × Instr × Nat) := [(0, .aload_n 0, 1), (1, .getfield 12, 3), (4, .iload_n 1, 1), (5, .invokevirtual 36, 3), (8, .ifCond .eq 18, 3), (11, .aload_n 0, 1), (12, .getfield 25, 3), (15, .iload_n 1, 1), (16, .iaload, 1), (17, .bipush (-2), 2), (19, .if_icmp .ne 7, 3), (22, .iconst 1, 1), (23, .goto 4, 3), (26, .iconst 0, 1), (27, .ireturn, 1)]
theorem t_X4_isDead : jv_dec cX4_isDead t0_X4_isDead = true := by decide +kernel
def M_X4_isDead : jm := (yX4_isDead, cX4_isDead, 2, (some .boolean), 1, 21, [])
theorem lk_X4_36 : jv_lk RX4 36 M_X9_has := Or.inr ⟨"SpaceWarden", (jv_at 614 (by decide +kernel))⟩
def f_X4_isDead (a0 : Nat) (a1 : Int32) (h : jh) : Option (Int32 × jh) :=
  gR h a0 2 0 fun v1 =>
  cV h v1 7 (f_X9_has v1 a1 h) fun v2 h3 =>
  (if v2 = 0 then
  some (0, h3)
  else
  gR h3 a0 2 3 fun v5 =>
  aI h3 v5 a1 fun v6 =>
  (if ¬ v6 = (-2) then
  some (0, h3)
  else
  some (1, h3)))
theorem P_X4_isDead (X : jx) (a0 : Nat) (a1 : Int32) (h : jh) : jv_P X M_X4_isDead jeI [.ref (a0), .int (a1)] h (f_X4_isDead a0 a1 h) := by
  refine jv_P.of (by decide) rfl (by simp [Value.category]) (Nat.le_of_ble_eq_true rfl) ?_
  show jv_O X M_X4_isDead (h.1, h.2.1) jeI 0 [some (.ref (a0)), some (.int (a1))] [] h (f_X4_isDead a0 a1 h)
  unfold f_X4_isDead
  refine jv_aload_n (jv_dk t_X4_isDead (k := 0) rfl) rfl rfl (Or.inr ⟨_, rfl⟩) ?_
  refine jv_gR (jv_dk t_X4_isDead (k := 1) rfl) fl_X4_12 (fun v1 => ?_)
  refine jv_iload_n (jv_dk t_X4_isDead (k := 2) rfl) rfl rfl ?_
  refine jv_callV (en' := jeI) (pv := jpI) (As := [.int (a1)]) (S := []) (jv_dk t_X4_isDead (k := 3) rfl) (fun _ => rfl) lk_X4_36 me_X9_has mv_X9_has ⟨by decide, by decide⟩ rfl rfl rfl (Nat.le_of_ble_eq_true rfl) (P_X9_has X v1 a1 h) (fun v2 h3 => ?_)
  show jv_O X M_X4_isDead _ jeI 8 [some (.ref (a0)), some (.int (a1))] [.int (v2)] h3 _
  refine jv_if_eq (tgt := 26) (jv_dk t_X4_isDead (k := 4) rfl) rfl (fun c4 => ?_) (fun c4 => ?_)
  · refine jv_iconst (v := 0) (jv_dk t_X4_isDead (k := 13) rfl) (by decide) ?_
    exact jv_iret (ty := .boolean) (jv_dk t_X4_isDead (k := 14) rfl) rfl rfl rfl
  · show jv_O _ _ _ _ 11 _ _ _ _
    refine jv_aload_n (jv_dk t_X4_isDead (k := 5) rfl) rfl rfl (Or.inr ⟨_, rfl⟩) ?_
    refine jv_gR (jv_dk t_X4_isDead (k := 6) rfl) fl_X4_25 (fun v5 => ?_)
    refine jv_iload_n (jv_dk t_X4_isDead (k := 7) rfl) rfl rfl ?_
    refine jv_iaload (jv_dk t_X4_isDead (k := 8) rfl) (fun v6 => ?_)
    refine jv_bipush (v := (-2)) (jv_dk t_X4_isDead (k := 9) rfl) (by decide) ?_
    refine jv_icmp_ne (tgt := 26) (jv_dk t_X4_isDead (k := 10) rfl) rfl (fun c7 => ?_) (fun c7 => ?_)
    · refine jv_iconst (v := 0) (jv_dk t_X4_isDead (k := 13) rfl) (by decide) ?_
      exact jv_iret (ty := .boolean) (jv_dk t_X4_isDead (k := 14) rfl) rfl rfl rfl
    · show jv_O _ _ _ _ 22 _ _ _ _
      refine jv_iconst (v := 1) (jv_dk t_X4_isDead (k := 11) rfl) (by decide) ?_
      refine jv_goto (tgt := 27) (jv_dk t_X4_isDead (k := 12) rfl) rfl ?_
      exact jv_iret (ty := .boolean) (jv_dk t_X4_isDead (k := 14) rfl) rfl rfl rfl
def t0_X4_dead : List (Nat × Instr × Nat) := [(0, .iconst 0, 1), (1, .istore_n 1, 1), (2, .iconst 0, 1), (3, .istore_n 2, 1), (4, .iload_n 2, 1), (5, .bipush 8, 2), (7, .if_icmp .ge 23, 3), (10, .aload_n 0, 1), (11, .iload_n 2, 1), (12, .invokevirtual 40, 3), (15, .ifCond .eq 9, 3), (18, .iload_n 1, 1), (19, .iconst 1, 1), (20, .iload_n 2, 1), (21, .ishl, 1), (22, .ior, 1), (23, .istore_n 1, 1), (24, .iinc 2 1, 3), (27, .goto (-23), 3), (30, .iload_n 1, 1), (31, .ireturn, 1)]
theorem t_X4_dead : jv_dec cX4_dead t0_X4_dead = true := by decide +kernel
def M_X4_dead : jm := (yX4_dead, cX4_dead, 3, (some .int), 2, 42, [])
theorem lk_X4_40 : Cond.methodLink RX4 40 M_X4_isDead.1 ∈ lw_tbl := (jv_at 1116 (by decide +kernel))
set_option maxRecDepth 20000 in
theorem me_X4_isDead : jv_me M_X4_isDead 1 := ⟨(jv_in2 (List.mem_of_getElem? (i := 213) rfl)), (jv_at 165 (by decide +kernel)), ⟨by decide, by decide⟩, by decide +kernel⟩
theorem mv_X4_isDead : jv_mv M_X4_isDead := ⟨(jv_at 612 (by decide +kernel)), (jv_at 14 (by decide +kernel))⟩
def f_X4_dead_h4 (K4 : Int32 → jh → Option (Int32 × jh)) (R4 : Nat → Int32 → Int32 → jh → Option (Int32 × jh)) (x0 : Nat) (x1 : Int32) (x2 : Int32) (h : jh) : Option (Int32 × jh) :=
  (if 8 ≤ x2 then
  K4 x1 h
  else
  cV h x0 2 (f_X4_isDead x0 x2 h) fun v2 h3 =>
  (if v2 = 0 then
  R4 x0 x1 (x2 + 1) h3
  else
  R4 x0 (x1 ||| (1 <<< (x2 &&& 31))) (x2 + 1) h3))
theorem o_f_X4_dead_h4 {X : jx} {b0 : Nat × Nat} {K4 : Int32 → jh → Option (Int32 × jh)} (hK4 : ∀ (x1 : Int32) (h : jh), jv_O X M_X4_dead b0 jeI 30 [none, some (.int (x1)), none] [] h (K4 x1 h)) : ∀ (x0 : Nat) (x1 : Int32) (x2 : Int32) (h : jh), jv_O X M_X4_dead b0 jeI 4 [some (.ref (x0)), some (.int (x1)), some (.int (x2))] [] h (jlp3 (f_X4_dead_h4 K4) jfu x0 x1 x2 h) := by
  refine jlp3_ok (P := fun x0 x1 x2 h o => jv_O X M_X4_dead b0 jeI 4 [some (.ref (x0)), some (.int (x1)), some (.int (x2))] [] h o) (fun R4 hR4 => ?_) (fun _ _ _ _  => jv_none rfl) jfu
  intro x0 x1 x2 h
  unfold f_X4_dead_h4
  refine jv_iload_n (jv_dk t_X4_dead (k := 4) rfl) rfl rfl ?_
  refine jv_bipush (v := 8) (jv_dk t_X4_dead (k := 5) rfl) (by decide) ?_
  refine jv_icmp_ge (tgt := 30) (jv_dk t_X4_dead (k := 6) rfl) rfl (fun c1 => ?_) (fun c1 => ?_)
  · refine jv_le_row (jv_le_n (jv_le_s (jv_le_n (jv_le_nil)))) ?_
    exact hK4 _ _ 
  · show jv_O _ _ _ _ 10 _ _ _ _
    refine jv_aload_n (jv_dk t_X4_dead (k := 7) rfl) rfl rfl (Or.inr ⟨_, rfl⟩) ?_
    refine jv_iload_n (jv_dk t_X4_dead (k := 8) rfl) rfl rfl ?_
    refine jv_callV (en' := jeI) (pv := jpI) (As := [.int (x2)]) (S := []) (jv_dk t_X4_dead (k := 9) rfl) (fun _ => rfl) (Or.inl lk_X4_40) me_X4_isDead mv_X4_isDead ⟨by decide, by decide⟩ rfl rfl rfl (Nat.le_of_ble_eq_true rfl) (P_X4_isDead X x0 x2 h) (fun v2 h3 => ?_)
    show jv_O X M_X4_dead _ jeI 15 [some (.ref (x0)), some (.int (x1)), some (.int (x2))] [.int (v2)] h3 _
    refine jv_if_eq (tgt := 24) (jv_dk t_X4_dead (k := 10) rfl) rfl (fun c4 => ?_) (fun c4 => ?_)
    · refine jv_iinc (v := 1) (L' := [some (.ref (x0)), some (.int (x1)), some (.int (x2 + 1))]) (jv_dk t_X4_dead (k := 17) rfl) rfl (by decide) rfl ?_
      refine jv_goto (tgt := 4) (jv_dk t_X4_dead (k := 18) rfl) rfl ?_
      exact hR4 _ _ _ _ 
    · show jv_O _ _ _ _ 18 _ _ _ _
      refine jv_iload_n (jv_dk t_X4_dead (k := 11) rfl) rfl rfl ?_
      refine jv_iconst (v := 1) (jv_dk t_X4_dead (k := 12) rfl) (by decide) ?_
      refine jv_iload_n (jv_dk t_X4_dead (k := 13) rfl) rfl rfl ?_
      refine jv_ishl (jv_dk t_X4_dead (k := 14) rfl) ?_
      refine jv_ior (jv_dk t_X4_dead (k := 15) rfl) ?_
      refine jv_istore_n (L' := [some (.ref (x0)), some (.int (x1 ||| (1 <<< (x2 &&& 31)))), some (.int (x2))]) (jv_dk t_X4_dead (k := 16) rfl) rfl (Nat.le_of_ble_eq_true rfl) rfl ?_
      refine jv_iinc (v := 1) (L' := [some (.ref (x0)), some (.int (x1 ||| (1 <<< (x2 &&& 31)))), some (.int (x2 + 1))]) (jv_dk t_X4_dead (k := 17) rfl) rfl (by decide) rfl ?_
      refine jv_goto (tgt := 4) (jv_dk t_X4_dead (k := 18) rfl) rfl ?_
      exact hR4 _ _ _ _ 
def f_X4_dead (a0 : Nat) (h : jh) : Option (Int32 × jh) :=
  jlp3 (f_X4_dead_h4 (fun y6 h5 =>
  some (y6, h5))) jfu a0 0 0 h
theorem P_X4_dead (X : jx) (a0 : Nat) (h : jh) : jv_P X M_X4_dead jeI [.ref (a0)] h (f_X4_dead a0 h) := by
  refine jv_P.of (by decide) rfl (by simp [Value.category]) (Nat.le_of_ble_eq_true rfl) ?_
  show jv_O X M_X4_dead (h.1, h.2.1) jeI 0 [some (.ref (a0)), none, none] [] h (f_X4_dead a0 h)
  unfold f_X4_dead
  refine jv_iconst (v := 0) (jv_dk t_X4_dead (k := 0) rfl) (by decide) ?_
  refine jv_istore_n (L' := [some (.ref (a0)), some (.int (0)), none]) (jv_dk t_X4_dead (k := 1) rfl) rfl (Nat.le_of_ble_eq_true rfl) rfl ?_
  refine jv_iconst (v := 0) (jv_dk t_X4_dead (k := 2) rfl) (by decide) ?_
  refine jv_istore_n (L' := [some (.ref (a0)), some (.int (0)), some (.int (0))]) (jv_dk t_X4_dead (k := 3) rfl) rfl (Nat.le_of_ble_eq_true rfl) rfl ?_
  refine o_f_X4_dead_h4 (fun y6 h5 => ?_) _ _ _ _ 
  show jv_O X M_X4_dead _ jeI 30 [none, some (.int (y6)), none] [] h5 _
  refine jv_iload_n (jv_dk t_X4_dead (k := 19) rfl) rfl rfl ?_
  exact jv_iret (ty := .int) (jv_dk t_X4_dead (k := 20) rfl) rfl rfl rfl
def t0_X4_livingInit : List (Nat × Instr × Nat) := [(0, .aload_n 0, 1), (1, .getfield 12, 3), (4, .iload_n 1, 1), (5, .invokevirtual 36, 3), (8, .ifCond .eq 21, 3), (11, .aload_n 0, 1), (12, .getfield 25, 3), (15, .iload_n 1, 1), (16, .iaload, 1), (17, .ifCond .lt 12, 3), (20, .aload_n 0, 1), (21, .getfield 25, 3), (24, .iload_n 1, 1), (25, .iaload, 1), (26, .goto 4, 3), (29, .iconst (-1), 1), (30, .ireturn, 1)]
theorem t_X4_livingInit : jv_dec cX4_livingInit t0_X4_livingInit = true := by decide +kernel
def M_X4_livingInit : jm := (yX4_livingInit, cX4_livingInit, 2, (some .int), 1, 21, [])
def f_X4_livingInit (a0 : Nat) (a1 : Int32) (h : jh) : Option (Int32 × jh) :=
  gR h a0 2 0 fun v1 =>
  cV h v1 7 (f_X9_has v1 a1 h) fun v2 h3 =>
  (if v2 = 0 then
  some ((-1), h3)
  else
  gR h3 a0 2 3 fun v5 =>
  aI h3 v5 a1 fun v6 =>
  (if v6 < 0 then
  some ((-1), h3)
  else
  gR h3 a0 2 3 fun v8 =>
  aI h3 v8 a1 fun v9 =>
  some (v9, h3)))
theorem P_X4_livingInit (X : jx) (a0 : Nat) (a1 : Int32) (h : jh) : jv_P X M_X4_livingInit jeI [.ref (a0), .int (a1)] h (f_X4_livingInit a0 a1 h) := by
  refine jv_P.of (by decide) rfl (by simp [Value.category]) (Nat.le_of_ble_eq_true rfl) ?_
  show jv_O X M_X4_livingInit (h.1, h.2.1) jeI 0 [some (.ref (a0)), some (.int (a1))] [] h (f_X4_livingInit a0 a1 h)
  unfold f_X4_livingInit
  refine jv_aload_n (jv_dk t_X4_livingInit (k := 0) rfl) rfl rfl (Or.inr ⟨_, rfl⟩) ?_
  refine jv_gR (jv_dk t_X4_livingInit (k := 1) rfl) fl_X4_12 (fun v1 => ?_)
  refine jv_iload_n (jv_dk t_X4_livingInit (k := 2) rfl) rfl rfl ?_
  refine jv_callV (en' := jeI) (pv := jpI) (As := [.int (a1)]) (S := []) (jv_dk t_X4_livingInit (k := 3) rfl) (fun _ => rfl) lk_X4_36 me_X9_has mv_X9_has ⟨by decide, by decide⟩ rfl rfl rfl (Nat.le_of_ble_eq_true rfl) (P_X9_has X v1 a1 h) (fun v2 h3 => ?_)
  show jv_O X M_X4_livingInit _ jeI 8 [some (.ref (a0)), some (.int (a1))] [.int (v2)] h3 _
  refine jv_if_eq (tgt := 29) (jv_dk t_X4_livingInit (k := 4) rfl) rfl (fun c4 => ?_) (fun c4 => ?_)
  · refine jv_iconst (v := (-1)) (jv_dk t_X4_livingInit (k := 15) rfl) (by decide) ?_
    exact jv_iret (ty := .int) (jv_dk t_X4_livingInit (k := 16) rfl) rfl rfl rfl
  · show jv_O _ _ _ _ 11 _ _ _ _
    refine jv_aload_n (jv_dk t_X4_livingInit (k := 5) rfl) rfl rfl (Or.inr ⟨_, rfl⟩) ?_
    refine jv_gR (jv_dk t_X4_livingInit (k := 6) rfl) fl_X4_25 (fun v5 => ?_)
    refine jv_iload_n (jv_dk t_X4_livingInit (k := 7) rfl) rfl rfl ?_
    refine jv_iaload (jv_dk t_X4_livingInit (k := 8) rfl) (fun v6 => ?_)
    refine jv_if_lt (tgt := 29) (jv_dk t_X4_livingInit (k := 9) rfl) rfl (fun c7 => ?_) (fun c7 => ?_)
    · refine jv_iconst (v := (-1)) (jv_dk t_X4_livingInit (k := 15) rfl) (by decide) ?_
      exact jv_iret (ty := .int) (jv_dk t_X4_livingInit (k := 16) rfl) rfl rfl rfl
    · show jv_O _ _ _ _ 20 _ _ _ _
      refine jv_aload_n (jv_dk t_X4_livingInit (k := 10) rfl) rfl rfl (Or.inr ⟨_, rfl⟩) ?_
      refine jv_gR (jv_dk t_X4_livingInit (k := 11) rfl) fl_X4_25 (fun v8 => ?_)
      refine jv_iload_n (jv_dk t_X4_livingInit (k := 12) rfl) rfl rfl ?_
      refine jv_iaload (jv_dk t_X4_livingInit (k := 13) rfl) (fun v9 => ?_)
      refine jv_goto (tgt := 30) (jv_dk t_X4_livingInit (k := 14) rfl) rfl ?_
      exact jv_iret (ty := .int) (jv_dk t_X4_livingInit (k := 16) rfl) rfl rfl rfl
def t0_X4_nextNumber : List (Nat × Instr × Nat) := [(0, .aload_n 0, 1), (1, .getfield 22, 3), (4, .iload_n 1, 1), (5, .iaload, 1), (6, .istore_n 3, 1), (7, .iconst 1, 1), (8, .istore 4, 2), (10, .iload 4, 2), (12, .bipush 20, 2), (14, .if_icmp .ge 33, 3), (17, .iload_n 3, 1), (18, .bipush 20, 2), (20, .if_icmp .lt 7, 3), (23, .iconst 2, 1), (24, .goto 6, 3), (27, .iload_n 3, 1), (28, .iconst 1, 1), (29, .iadd, 1), (30, .istore_n 3, 1), (31, .iload_n 2, 1), (32, .iload_n 3, 1), (33, .invokestatic 43, 3), (36, .ifCond .ne 5, 3), (39, .iload_n 3, 1), (40, .ireturn, 1), (41, .iinc 4 1, 3), (44, .goto (-34), 3), (47, .iconst 0, 1), (48, .ireturn, 1)]
theorem t_X4_nextNumber : jv_dec cX4_nextNumber t0_X4_nextNumber = true := by decide +kernel
def M_X4_nextNumber : jm := (yX4_nextNumber, cX4_nextNumber, 5, (some .int), 1, 21, [])
theorem lk_X4_43 : jv_lk RX4 43 M_X12_holds := Or.inr ⟨"SpaceWarden", (jv_at 634 (by decide +kernel))⟩
def f_X4_nextNumber_b30 (R10 : Int32 → Int32 → Int32 → jh → Option (Int32 × jh)) (K10 : jh → Option (Int32 × jh)) (x2 : Int32) (x4 : Int32) (s0 : Int32) (h : jh) : Option (Int32 × jh) :=
  bd (f_X12_holds x2 s0 h) fun v5 h6 =>
  (if ¬ v5 = 0 then
  R10 x2 s0 (x4 + 1) h6
  else
  some (s0, h6))
theorem o_f_X4_nextNumber_b30 {X : jx} {b0 : Nat × Nat} {R10 : Int32 → Int32 → Int32 → jh → Option (Int32 × jh)} {K10 : jh → Option (Int32 × jh)} (hR10 : ∀ (x2 : Int32) (x3 : Int32) (x4 : Int32) (h : jh), jv_O X M_X4_nextNumber b0 jeI 10 [none, none, some (.int (x2)), some (.int (x3)), some (.int (x4))] [] h (R10 x2 x3 x4 h)) (hK10 : ∀  (h : jh), jv_O X M_X4_nextNumber b0 jeI 47 [none, none, none, none, none] [] h (K10  h)) (x2 : Int32) (x4 : Int32) (s0 : Int32) (h : jh) : jv_O X M_X4_nextNumber b0 jeI 30 [none, none, some (.int (x2)), none, some (.int (x4))] [.int (s0)] h (f_X4_nextNumber_b30 R10 K10 x2 x4 s0 h) := by
  unfold f_X4_nextNumber_b30
  refine jv_istore_n (L' := [none, none, some (.int (x2)), some (.int (s0)), some (.int (x4))]) (jv_dk t_X4_nextNumber (k := 18) rfl) rfl (Nat.le_of_ble_eq_true rfl) rfl ?_
  refine jv_iload_n (jv_dk t_X4_nextNumber (k := 19) rfl) rfl rfl ?_
  refine jv_iload_n (jv_dk t_X4_nextNumber (k := 20) rfl) rfl rfl ?_
  refine jv_callS (en' := jeI) (pv := jpI) (As := [.int (x2), .int (s0)]) (S := []) (jv_dk t_X4_nextNumber (k := 21) rfl) (fun _ => rfl) lk_X4_43 me_X12_holds ms_X12_holds ⟨by decide, by decide⟩ rfl rfl (Nat.le_of_ble_eq_true rfl) (P_X12_holds X x2 s0 h) (fun v5 h6 => ?_)
  show jv_O X M_X4_nextNumber _ jeI 36 [none, none, some (.int (x2)), some (.int (s0)), some (.int (x4))] [.int (v5)] h6 _
  refine jv_if_ne (tgt := 41) (jv_dk t_X4_nextNumber (k := 22) rfl) rfl (fun c7 => ?_) (fun c7 => ?_)
  · refine jv_iinc (v := 1) (L' := [none, none, some (.int (x2)), some (.int (s0)), some (.int (x4 + 1))]) (jv_dk t_X4_nextNumber (k := 25) rfl) rfl (by decide) rfl ?_
    refine jv_goto (tgt := 10) (jv_dk t_X4_nextNumber (k := 26) rfl) rfl ?_
    exact hR10 _ _ _ _ 
  · show jv_O _ _ _ _ 39 _ _ _ _
    refine jv_iload_n (jv_dk t_X4_nextNumber (k := 23) rfl) rfl rfl ?_
    exact jv_iret (ty := .int) (jv_dk t_X4_nextNumber (k := 24) rfl) rfl rfl rfl
def f_X4_nextNumber_h10 (K10 : jh → Option (Int32 × jh)) (R10 : Int32 → Int32 → Int32 → jh → Option (Int32 × jh)) (x2 : Int32) (x3 : Int32) (x4 : Int32) (h : jh) : Option (Int32 × jh) :=
  (if 20 ≤ x4 then
  K10  h
  else
  (if x3 < 20 then
  f_X4_nextNumber_b30 R10 K10 x2 x4 (x3 + 1) h
  else
  f_X4_nextNumber_b30 R10 K10 x2 x4 2 h))
theorem o_f_X4_nextNumber_h10 {X : jx} {b0 : Nat × Nat} {K10 : jh → Option (Int32 × jh)} (hK10 : ∀  (h : jh), jv_O X M_X4_nextNumber b0 jeI 47 [none, none, none, none, none] [] h (K10  h)) : ∀ (x2 : Int32) (x3 : Int32) (x4 : Int32) (h : jh), jv_O X M_X4_nextNumber b0 jeI 10 [none, none, some (.int (x2)), some (.int (x3)), some (.int (x4))] [] h (jlp3 (f_X4_nextNumber_h10 K10) jfu x2 x3 x4 h) := by
  refine jlp3_ok (P := fun x2 x3 x4 h o => jv_O X M_X4_nextNumber b0 jeI 10 [none, none, some (.int (x2)), some (.int (x3)), some (.int (x4))] [] h o) (fun R10 hR10 => ?_) (fun _ _ _ _  => jv_none rfl) jfu
  intro x2 x3 x4 h
  unfold f_X4_nextNumber_h10
  refine jv_iload (jv_dk t_X4_nextNumber (k := 7) rfl) rfl ?_
  refine jv_bipush (v := 20) (jv_dk t_X4_nextNumber (k := 8) rfl) (by decide) ?_
  refine jv_icmp_ge (tgt := 47) (jv_dk t_X4_nextNumber (k := 9) rfl) rfl (fun c3 => ?_) (fun c3 => ?_)
  · refine jv_le_row (jv_le_n (jv_le_n (jv_le_n (jv_le_n (jv_le_n (jv_le_nil)))))) ?_
    exact hK10 _ 
  · show jv_O _ _ _ _ 17 _ _ _ _
    refine jv_iload_n (jv_dk t_X4_nextNumber (k := 10) rfl) rfl rfl ?_
    refine jv_bipush (v := 20) (jv_dk t_X4_nextNumber (k := 11) rfl) (by decide) ?_
    refine jv_icmp_lt (tgt := 27) (jv_dk t_X4_nextNumber (k := 12) rfl) rfl (fun c4 => ?_) (fun c4 => ?_)
    · refine jv_iload_n (jv_dk t_X4_nextNumber (k := 15) rfl) rfl rfl ?_
      refine jv_iconst (v := 1) (jv_dk t_X4_nextNumber (k := 16) rfl) (by decide) ?_
      refine jv_iadd (jv_dk t_X4_nextNumber (k := 17) rfl) ?_
      refine jv_le_row (jv_le_n (jv_le_n (jv_le_s (jv_le_n (jv_le_s (jv_le_nil)))))) ?_
      exact o_f_X4_nextNumber_b30 hR10 hK10 _ _ _ _ 
    · show jv_O _ _ _ _ 23 _ _ _ _
      refine jv_iconst (v := 2) (jv_dk t_X4_nextNumber (k := 13) rfl) (by decide) ?_
      refine jv_goto (tgt := 30) (jv_dk t_X4_nextNumber (k := 14) rfl) rfl ?_
      refine jv_le_row (jv_le_n (jv_le_n (jv_le_s (jv_le_n (jv_le_s (jv_le_nil)))))) ?_
      exact o_f_X4_nextNumber_b30 hR10 hK10 _ _ _ _ 
def f_X4_nextNumber (a0 : Nat) (a1 : Int32) (a2 : Int32) (h : jh) : Option (Int32 × jh) :=
  gR h a0 2 2 fun v1 =>
  aI h v1 a1 fun v2 =>
  jlp3 (f_X4_nextNumber_h10 (fun  h8 =>
  some (0, h8))) jfu a2 v2 1 h
theorem P_X4_nextNumber (X : jx) (a0 : Nat) (a1 : Int32) (a2 : Int32) (h : jh) : jv_P X M_X4_nextNumber jeI [.ref (a0), .int (a1), .int (a2)] h (f_X4_nextNumber a0 a1 a2 h) := by
  refine jv_P.of (by decide) rfl (by simp [Value.category]) (Nat.le_of_ble_eq_true rfl) ?_
  show jv_O X M_X4_nextNumber (h.1, h.2.1) jeI 0 [some (.ref (a0)), some (.int (a1)), some (.int (a2)), none, none] [] h (f_X4_nextNumber a0 a1 a2 h)
  unfold f_X4_nextNumber
  refine jv_aload_n (jv_dk t_X4_nextNumber (k := 0) rfl) rfl rfl (Or.inr ⟨_, rfl⟩) ?_
  refine jv_gR (jv_dk t_X4_nextNumber (k := 1) rfl) fl_X4_22 (fun v1 => ?_)
  refine jv_iload_n (jv_dk t_X4_nextNumber (k := 2) rfl) rfl rfl ?_
  refine jv_iaload (jv_dk t_X4_nextNumber (k := 3) rfl) (fun v2 => ?_)
  refine jv_istore_n (L' := [some (.ref (a0)), some (.int (a1)), some (.int (a2)), some (.int (v2)), none]) (jv_dk t_X4_nextNumber (k := 4) rfl) rfl (Nat.le_of_ble_eq_true rfl) rfl ?_
  refine jv_iconst (v := 1) (jv_dk t_X4_nextNumber (k := 5) rfl) (by decide) ?_
  refine jv_istore (L' := [some (.ref (a0)), some (.int (a1)), some (.int (a2)), some (.int (v2)), some (.int (1))]) (jv_dk t_X4_nextNumber (k := 6) rfl) (Nat.le_of_ble_eq_true rfl) rfl ?_
  refine jv_le_row (jv_le_n (jv_le_n (jv_le_s (jv_le_s (jv_le_s (jv_le_nil)))))) ?_
  refine o_f_X4_nextNumber_h10 (fun  h8 => ?_) _ _ _ _ 
  show jv_O X M_X4_nextNumber _ jeI 47 [none, none, none, none, none] [] h8 _
  refine jv_iconst (v := 0) (jv_dk t_X4_nextNumber (k := 27) rfl) (by decide) ?_
  exact jv_iret (ty := .int) (jv_dk t_X4_nextNumber (k := 28) rfl) rfl rfl rfl
def t0_X5_init : List (Nat × Instr × Nat) := [(0, .aload_n 0, 1), (1, .invokespecial 3, 3), (4, .aload_n 0, 1), (5, .bipush 16, 2), (7, .newarray .int, 2), (9, .putfield 9, 3), (12, .aload_n 0, 1), (13, .bipush 16, 2), (15, .newarray .int, 2), (17, .putfield 15, 3), (20, .aload_n 0, 1), (21, .bipush 16, 2), (23, .newarray .int, 2), (25, .putfield 18, 3), (28, .aload_n 0, 1), (29, .bipush 16, 2), (31, .newarray .int, 2), (33, .putfield 21, 3), (36, .aload_n 0, 1), (37, .bipush 16, 2), (39, .newarray .int, 2), (41, .putfield 24, 3), (44, .aload_n 0, 1), (45, .bipush 16, 2), (47, .newarray .int, 2), (49, .putfield 27, 3), (52, .aload_n 0, 1), (53, .sipush 128, 3), (56, .newarray .int, 2), (58, .putfield 30, 3), (61, .aload_n 0, 1), (62, .iconst 1, 1), (63, .putfield 33, 3), (66, .aload_n 0, 1), (67, .iconst 1, 1), (68, .putfield 37, 3), (71, .aload_n 0, 1), (72, .getfield 30, 3), (75, .iconst 0, 1), (76, .iconst 1, 1), (77, .iastore, 1), (78, .return_, 1)]
theorem t_X5_init : jv_dec cX5_init t0_X5_init = true := by decide +kernel
def M_X5_init : jm := (yX5_init, cX5_init, 1, none, 1, 20, [])
theorem oi_X5_3 : Cond.methodLink RX5 3 Lib.objectInit ∈ lw_tbl := (jv_at 213 (by decide +kernel))
theorem fl_X5_9 : jv_F RX5 9 3 0 RX5 TX5 9 := ⟨rfl, by decide, inX5, Or.inl (jv_at 214 (by decide +kernel))⟩
theorem ff_X5_9 : Cond.fieldLink RX5 9 (TX5 0).1 (TX5 0).2.1 (TX5 0).2.2.1 ∈ lw_tbl := (jv_at 214 (by decide +kernel))
theorem fl_X5_15 : jv_F RX5 15 3 1 RX5 TX5 9 := ⟨rfl, by decide, inX5, Or.inl (jv_at 217 (by decide +kernel))⟩
theorem ff_X5_15 : Cond.fieldLink RX5 15 (TX5 1).1 (TX5 1).2.1 (TX5 1).2.2.1 ∈ lw_tbl := (jv_at 217 (by decide +kernel))
theorem fl_X5_18 : jv_F RX5 18 3 2 RX5 TX5 9 := ⟨rfl, by decide, inX5, Or.inl (jv_at 220 (by decide +kernel))⟩
theorem ff_X5_18 : Cond.fieldLink RX5 18 (TX5 2).1 (TX5 2).2.1 (TX5 2).2.2.1 ∈ lw_tbl := (jv_at 220 (by decide +kernel))
theorem fl_X5_21 : jv_F RX5 21 3 3 RX5 TX5 9 := ⟨rfl, by decide, inX5, Or.inl (jv_at 224 (by decide +kernel))⟩
theorem ff_X5_21 : Cond.fieldLink RX5 21 (TX5 3).1 (TX5 3).2.1 (TX5 3).2.2.1 ∈ lw_tbl := (jv_at 224 (by decide +kernel))
theorem fl_X5_24 : jv_F RX5 24 3 4 RX5 TX5 9 := ⟨rfl, by decide, inX5, Or.inl (jv_at 228 (by decide +kernel))⟩
theorem ff_X5_24 : Cond.fieldLink RX5 24 (TX5 4).1 (TX5 4).2.1 (TX5 4).2.2.1 ∈ lw_tbl := (jv_at 228 (by decide +kernel))
theorem fl_X5_27 : jv_F RX5 27 3 5 RX5 TX5 9 := ⟨rfl, by decide, inX5, Or.inl (jv_at 231 (by decide +kernel))⟩
theorem ff_X5_27 : Cond.fieldLink RX5 27 (TX5 5).1 (TX5 5).2.1 (TX5 5).2.2.1 ∈ lw_tbl := (jv_at 231 (by decide +kernel))
theorem ff_X5_30 : Cond.fieldLink RX5 30 (TX5 6).1 (TX5 6).2.1 (TX5 6).2.2.1 ∈ lw_tbl := (jv_at 235 (by decide +kernel))
theorem fl_X5_37 : jv_F RX5 37 3 8 RX5 TX5 9 := ⟨rfl, by decide, inX5, Or.inl (jv_at 240 (by decide +kernel))⟩
def f_X5_init (a0 : Nat) (h : jh) : Option (Unit × jh) :=
  nI4 h 16 fun q1 h2 =>
  pV h2 a0 3 0 (.ref (q1)) fun h3 =>
  nI4 h3 16 fun q4 h5 =>
  pV h5 a0 3 1 (.ref (q4)) fun h6 =>
  nI4 h6 16 fun q7 h8 =>
  pV h8 a0 3 2 (.ref (q7)) fun h9 =>
  nI4 h9 16 fun q10 h11 =>
  pV h11 a0 3 3 (.ref (q10)) fun h12 =>
  nI4 h12 16 fun q13 h14 =>
  pV h14 a0 3 4 (.ref (q13)) fun h15 =>
  nI4 h15 16 fun q16 h17 =>
  pV h17 a0 3 5 (.ref (q16)) fun h18 =>
  nI4 h18 128 fun q19 h20 =>
  pV h20 a0 3 6 (.ref (q19)) fun h21 =>
  pV h21 a0 3 7 (.int (1)) fun h22 =>
  pV h22 a0 3 8 (.int (1)) fun h23 =>
  gR h23 a0 3 6 fun v24 =>
  sI h23 v24 0 1 fun h25 =>
  some ((), h25)
theorem P_X5_init (X : jx) (a0 : Nat) (h : jh) : jv_P X M_X5_init jeV [.ref (a0)] h (f_X5_init a0 h) := by
  refine jv_P.of (by decide) rfl (by simp [Value.category]) (Nat.le_of_ble_eq_true rfl) ?_
  show jv_O X M_X5_init (h.1, h.2.1) jeV 0 [some (.ref (a0))] [] h (f_X5_init a0 h)
  unfold f_X5_init
  refine jv_aload_n (jv_dk t_X5_init (k := 0) rfl) rfl rfl (Or.inr ⟨_, rfl⟩) ?_
  refine jv_obj (jv_dk t_X5_init (k := 1) rfl) oi_X5_3 oi_2 oi_3 (Nat.le_of_ble_eq_true rfl) ⟨by decide, by decide⟩ ?_
  refine jv_aload_n (jv_dk t_X5_init (k := 2) rfl) rfl rfl (Or.inr ⟨_, rfl⟩) ?_
  refine jv_bipush (v := 16) (jv_dk t_X5_init (k := 3) rfl) (by decide) ?_
  refine jv_newI (jv_dk t_X5_init (k := 4) rfl) ac_I (fun q1 h2 => ?_)
  refine jv_pV (jv_dk t_X5_init (k := 5) rfl) fl_X5_9 kX5 (Or.inr ⟨rfl, rfl, rfl, ff_X5_9⟩) rfl rfl rfl (fun h3 => ?_)
  refine jv_aload_n (jv_dk t_X5_init (k := 6) rfl) rfl rfl (Or.inr ⟨_, rfl⟩) ?_
  refine jv_bipush (v := 16) (jv_dk t_X5_init (k := 7) rfl) (by decide) ?_
  refine jv_newI (jv_dk t_X5_init (k := 8) rfl) ac_I (fun q4 h5 => ?_)
  refine jv_pV (jv_dk t_X5_init (k := 9) rfl) fl_X5_15 kX5 (Or.inr ⟨rfl, rfl, rfl, ff_X5_15⟩) rfl rfl rfl (fun h6 => ?_)
  refine jv_aload_n (jv_dk t_X5_init (k := 10) rfl) rfl rfl (Or.inr ⟨_, rfl⟩) ?_
  refine jv_bipush (v := 16) (jv_dk t_X5_init (k := 11) rfl) (by decide) ?_
  refine jv_newI (jv_dk t_X5_init (k := 12) rfl) ac_I (fun q7 h8 => ?_)
  refine jv_pV (jv_dk t_X5_init (k := 13) rfl) fl_X5_18 kX5 (Or.inr ⟨rfl, rfl, rfl, ff_X5_18⟩) rfl rfl rfl (fun h9 => ?_)
  refine jv_aload_n (jv_dk t_X5_init (k := 14) rfl) rfl rfl (Or.inr ⟨_, rfl⟩) ?_
  refine jv_bipush (v := 16) (jv_dk t_X5_init (k := 15) rfl) (by decide) ?_
  refine jv_newI (jv_dk t_X5_init (k := 16) rfl) ac_I (fun q10 h11 => ?_)
  refine jv_pV (jv_dk t_X5_init (k := 17) rfl) fl_X5_21 kX5 (Or.inr ⟨rfl, rfl, rfl, ff_X5_21⟩) rfl rfl rfl (fun h12 => ?_)
  refine jv_aload_n (jv_dk t_X5_init (k := 18) rfl) rfl rfl (Or.inr ⟨_, rfl⟩) ?_
  refine jv_bipush (v := 16) (jv_dk t_X5_init (k := 19) rfl) (by decide) ?_
  refine jv_newI (jv_dk t_X5_init (k := 20) rfl) ac_I (fun q13 h14 => ?_)
  refine jv_pV (jv_dk t_X5_init (k := 21) rfl) fl_X5_24 kX5 (Or.inr ⟨rfl, rfl, rfl, ff_X5_24⟩) rfl rfl rfl (fun h15 => ?_)
  refine jv_aload_n (jv_dk t_X5_init (k := 22) rfl) rfl rfl (Or.inr ⟨_, rfl⟩) ?_
  refine jv_bipush (v := 16) (jv_dk t_X5_init (k := 23) rfl) (by decide) ?_
  refine jv_newI (jv_dk t_X5_init (k := 24) rfl) ac_I (fun q16 h17 => ?_)
  refine jv_pV (jv_dk t_X5_init (k := 25) rfl) fl_X5_27 kX5 (Or.inr ⟨rfl, rfl, rfl, ff_X5_27⟩) rfl rfl rfl (fun h18 => ?_)
  refine jv_aload_n (jv_dk t_X5_init (k := 26) rfl) rfl rfl (Or.inr ⟨_, rfl⟩) ?_
  refine jv_sipush (v := 128) (jv_dk t_X5_init (k := 27) rfl) (by decide) ?_
  refine jv_newI (jv_dk t_X5_init (k := 28) rfl) ac_I (fun q19 h20 => ?_)
  refine jv_pV (jv_dk t_X5_init (k := 29) rfl) fl_X5_30 kX5 (Or.inr ⟨rfl, rfl, rfl, ff_X5_30⟩) rfl rfl rfl (fun h21 => ?_)
  refine jv_aload_n (jv_dk t_X5_init (k := 30) rfl) rfl rfl (Or.inr ⟨_, rfl⟩) ?_
  refine jv_iconst (v := 1) (jv_dk t_X5_init (k := 31) rfl) (by decide) ?_
  refine jv_pV (jv_dk t_X5_init (k := 32) rfl) fl_X5_33 kX5 (Or.inl rfl) rfl rfl rfl (fun h22 => ?_)
  refine jv_aload_n (jv_dk t_X5_init (k := 33) rfl) rfl rfl (Or.inr ⟨_, rfl⟩) ?_
  refine jv_iconst (v := 1) (jv_dk t_X5_init (k := 34) rfl) (by decide) ?_
  refine jv_pV (jv_dk t_X5_init (k := 35) rfl) fl_X5_37 kX5 (Or.inl rfl) rfl rfl rfl (fun h23 => ?_)
  refine jv_aload_n (jv_dk t_X5_init (k := 36) rfl) rfl rfl (Or.inr ⟨_, rfl⟩) ?_
  refine jv_gR (jv_dk t_X5_init (k := 37) rfl) fl_X5_30 (fun v24 => ?_)
  refine jv_iconst (v := 0) (jv_dk t_X5_init (k := 38) rfl) (by decide) ?_
  refine jv_iconst (v := 1) (jv_dk t_X5_init (k := 39) rfl) (by decide) ?_
  refine jv_iastore (jv_dk t_X5_init (k := 40) rfl) (fun h25 => ?_)
  exact jv_vret (jv_dk t_X5_init (k := 41) rfl) rfl rfl
def t0_X5_copy : List (Nat × Instr × Nat) := [(0, .aload_n 1, 1), (1, .getfield 9, 3), (4, .aload_n 0, 1), (5, .getfield 9, 3), (8, .invokestatic 40, 3), (11, .aload_n 1, 1), (12, .getfield 15, 3), (15, .aload_n 0, 1), (16, .getfield 15, 3), (19, .invokestatic 40, 3), (22, .aload_n 1, 1), (23, .getfield 18, 3), (26, .aload_n 0, 1), (27, .getfield 18, 3), (30, .invokestatic 40, 3), (33, .aload_n 1, 1), (34, .getfield 21, 3), (37, .aload_n 0, 1), (38, .getfield 21, 3), (41, .invokestatic 40, 3), (44, .aload_n 1, 1), (45, .getfield 24, 3), (48, .aload_n 0, 1), (49, .getfield 24, 3), (52, .invokestatic 40, 3), (55, .aload_n 1, 1), (56, .getfield 27, 3), (59, .aload_n 0, 1), (60, .getfield 27, 3), (63, .invokestatic 40, 3), (66, .aload_n 1, 1), (67, .getfield 30, 3), (70, .aload_n 0, 1), (71, .getfield 30, 3), (74, .invokestatic 40, 3), (77, .aload_n 0, 1), (78, .aload_n 1, 1), (79, .getfield 33, 3), (82, .putfield 33, 3), (85, .aload_n 0, 1), (86, .aload_n 1, 1), (87, .getfield 37, 3), (90, .putfield 37, 3), (93, .return_, 1)]
theorem t_X5_copy : jv_dec cX5_copy t0_X5_copy = true := by decide +kernel
def M_X5_copy : jm := (yX5_copy, cX5_copy, 2, none, 2, 61, [])
theorem lk_X5_40 : jv_lk RX5 40 M_X12_copyRow := Or.inr ⟨"SpaceWarden", (jv_at 552 (by decide +kernel))⟩
def f_X5_copy (a0 : Nat) (a1 : Nat) (h : jh) : Option (Unit × jh) :=
  gR h a1 3 0 fun v1 =>
  gR h a0 3 0 fun v2 =>
  bd (f_X12_copyRow v1 v2 h) fun _ h3 =>
  gR h3 a1 3 1 fun v4 =>
  gR h3 a0 3 1 fun v5 =>
  bd (f_X12_copyRow v4 v5 h3) fun _ h6 =>
  gR h6 a1 3 2 fun v7 =>
  gR h6 a0 3 2 fun v8 =>
  bd (f_X12_copyRow v7 v8 h6) fun _ h9 =>
  gR h9 a1 3 3 fun v10 =>
  gR h9 a0 3 3 fun v11 =>
  bd (f_X12_copyRow v10 v11 h9) fun _ h12 =>
  gR h12 a1 3 4 fun v13 =>
  gR h12 a0 3 4 fun v14 =>
  bd (f_X12_copyRow v13 v14 h12) fun _ h15 =>
  gR h15 a1 3 5 fun v16 =>
  gR h15 a0 3 5 fun v17 =>
  bd (f_X12_copyRow v16 v17 h15) fun _ h18 =>
  gR h18 a1 3 6 fun v19 =>
  gR h18 a0 3 6 fun v20 =>
  bd (f_X12_copyRow v19 v20 h18) fun _ h21 =>
  gI h21 a1 3 7 fun v22 =>
  pV h21 a0 3 7 (.int (v22)) fun h23 =>
  gI h23 a1 3 8 fun v24 =>
  pV h23 a0 3 8 (.int (v24)) fun h25 =>
  some ((), h25)
theorem P_X5_copy (X : jx) (a0 : Nat) (a1 : Nat) (h : jh) : jv_P X M_X5_copy jeV [.ref (a0), .ref (a1)] h (f_X5_copy a0 a1 h) := by
  refine jv_P.of (by decide) rfl (by simp [Value.category]) (Nat.le_of_ble_eq_true rfl) ?_
  show jv_O X M_X5_copy (h.1, h.2.1) jeV 0 [some (.ref (a0)), some (.ref (a1))] [] h (f_X5_copy a0 a1 h)
  unfold f_X5_copy
  refine jv_aload_n (jv_dk t_X5_copy (k := 0) rfl) rfl rfl (Or.inr ⟨_, rfl⟩) ?_
  refine jv_gR (jv_dk t_X5_copy (k := 1) rfl) fl_X5_9 (fun v1 => ?_)
  refine jv_aload_n (jv_dk t_X5_copy (k := 2) rfl) rfl rfl (Or.inr ⟨_, rfl⟩) ?_
  refine jv_gR (jv_dk t_X5_copy (k := 3) rfl) fl_X5_9 (fun v2 => ?_)
  refine jv_callS (en' := jeV) (pv := jpV) (As := [.ref (v1), .ref (v2)]) (S := []) (jv_dk t_X5_copy (k := 4) rfl) (fun _ => rfl) lk_X5_40 me_X12_copyRow ms_X12_copyRow ⟨by decide, by decide⟩ rfl rfl (Nat.le_of_ble_eq_true rfl) (P_X12_copyRow X v1 v2 h) (fun _ h3 => ?_)
  show jv_O X M_X5_copy _ jeV 11 [some (.ref (a0)), some (.ref (a1))] [] h3 _
  refine jv_aload_n (jv_dk t_X5_copy (k := 5) rfl) rfl rfl (Or.inr ⟨_, rfl⟩) ?_
  refine jv_gR (jv_dk t_X5_copy (k := 6) rfl) fl_X5_15 (fun v4 => ?_)
  refine jv_aload_n (jv_dk t_X5_copy (k := 7) rfl) rfl rfl (Or.inr ⟨_, rfl⟩) ?_
  refine jv_gR (jv_dk t_X5_copy (k := 8) rfl) fl_X5_15 (fun v5 => ?_)
  refine jv_callS (en' := jeV) (pv := jpV) (As := [.ref (v4), .ref (v5)]) (S := []) (jv_dk t_X5_copy (k := 9) rfl) (fun _ => rfl) lk_X5_40 me_X12_copyRow ms_X12_copyRow ⟨by decide, by decide⟩ rfl rfl (Nat.le_of_ble_eq_true rfl) (P_X12_copyRow X v4 v5 h3) (fun _ h6 => ?_)
  show jv_O X M_X5_copy _ jeV 22 [some (.ref (a0)), some (.ref (a1))] [] h6 _
  refine jv_aload_n (jv_dk t_X5_copy (k := 10) rfl) rfl rfl (Or.inr ⟨_, rfl⟩) ?_
  refine jv_gR (jv_dk t_X5_copy (k := 11) rfl) fl_X5_18 (fun v7 => ?_)
  refine jv_aload_n (jv_dk t_X5_copy (k := 12) rfl) rfl rfl (Or.inr ⟨_, rfl⟩) ?_
  refine jv_gR (jv_dk t_X5_copy (k := 13) rfl) fl_X5_18 (fun v8 => ?_)
  refine jv_callS (en' := jeV) (pv := jpV) (As := [.ref (v7), .ref (v8)]) (S := []) (jv_dk t_X5_copy (k := 14) rfl) (fun _ => rfl) lk_X5_40 me_X12_copyRow ms_X12_copyRow ⟨by decide, by decide⟩ rfl rfl (Nat.le_of_ble_eq_true rfl) (P_X12_copyRow X v7 v8 h6) (fun _ h9 => ?_)
  show jv_O X M_X5_copy _ jeV 33 [some (.ref (a0)), some (.ref (a1))] [] h9 _
  refine jv_aload_n (jv_dk t_X5_copy (k := 15) rfl) rfl rfl (Or.inr ⟨_, rfl⟩) ?_
  refine jv_gR (jv_dk t_X5_copy (k := 16) rfl) fl_X5_21 (fun v10 => ?_)
  refine jv_aload_n (jv_dk t_X5_copy (k := 17) rfl) rfl rfl (Or.inr ⟨_, rfl⟩) ?_
  refine jv_gR (jv_dk t_X5_copy (k := 18) rfl) fl_X5_21 (fun v11 => ?_)
  refine jv_callS (en' := jeV) (pv := jpV) (As := [.ref (v10), .ref (v11)]) (S := []) (jv_dk t_X5_copy (k := 19) rfl) (fun _ => rfl) lk_X5_40 me_X12_copyRow ms_X12_copyRow ⟨by decide, by decide⟩ rfl rfl (Nat.le_of_ble_eq_true rfl) (P_X12_copyRow X v10 v11 h9) (fun _ h12 => ?_)
  show jv_O X M_X5_copy _ jeV 44 [some (.ref (a0)), some (.ref (a1))] [] h12 _
  refine jv_aload_n (jv_dk t_X5_copy (k := 20) rfl) rfl rfl (Or.inr ⟨_, rfl⟩) ?_
  refine jv_gR (jv_dk t_X5_copy (k := 21) rfl) fl_X5_24 (fun v13 => ?_)
  refine jv_aload_n (jv_dk t_X5_copy (k := 22) rfl) rfl rfl (Or.inr ⟨_, rfl⟩) ?_
  refine jv_gR (jv_dk t_X5_copy (k := 23) rfl) fl_X5_24 (fun v14 => ?_)
  refine jv_callS (en' := jeV) (pv := jpV) (As := [.ref (v13), .ref (v14)]) (S := []) (jv_dk t_X5_copy (k := 24) rfl) (fun _ => rfl) lk_X5_40 me_X12_copyRow ms_X12_copyRow ⟨by decide, by decide⟩ rfl rfl (Nat.le_of_ble_eq_true rfl) (P_X12_copyRow X v13 v14 h12) (fun _ h15 => ?_)
  show jv_O X M_X5_copy _ jeV 55 [some (.ref (a0)), some (.ref (a1))] [] h15 _
  refine jv_aload_n (jv_dk t_X5_copy (k := 25) rfl) rfl rfl (Or.inr ⟨_, rfl⟩) ?_
  refine jv_gR (jv_dk t_X5_copy (k := 26) rfl) fl_X5_27 (fun v16 => ?_)
  refine jv_aload_n (jv_dk t_X5_copy (k := 27) rfl) rfl rfl (Or.inr ⟨_, rfl⟩) ?_
  refine jv_gR (jv_dk t_X5_copy (k := 28) rfl) fl_X5_27 (fun v17 => ?_)
  refine jv_callS (en' := jeV) (pv := jpV) (As := [.ref (v16), .ref (v17)]) (S := []) (jv_dk t_X5_copy (k := 29) rfl) (fun _ => rfl) lk_X5_40 me_X12_copyRow ms_X12_copyRow ⟨by decide, by decide⟩ rfl rfl (Nat.le_of_ble_eq_true rfl) (P_X12_copyRow X v16 v17 h15) (fun _ h18 => ?_)
  show jv_O X M_X5_copy _ jeV 66 [some (.ref (a0)), some (.ref (a1))] [] h18 _
  refine jv_aload_n (jv_dk t_X5_copy (k := 30) rfl) rfl rfl (Or.inr ⟨_, rfl⟩) ?_
  refine jv_gR (jv_dk t_X5_copy (k := 31) rfl) fl_X5_30 (fun v19 => ?_)
  refine jv_aload_n (jv_dk t_X5_copy (k := 32) rfl) rfl rfl (Or.inr ⟨_, rfl⟩) ?_
  refine jv_gR (jv_dk t_X5_copy (k := 33) rfl) fl_X5_30 (fun v20 => ?_)
  refine jv_callS (en' := jeV) (pv := jpV) (As := [.ref (v19), .ref (v20)]) (S := []) (jv_dk t_X5_copy (k := 34) rfl) (fun _ => rfl) lk_X5_40 me_X12_copyRow ms_X12_copyRow ⟨by decide, by decide⟩ rfl rfl (Nat.le_of_ble_eq_true rfl) (P_X12_copyRow X v19 v20 h18) (fun _ h21 => ?_)
  show jv_O X M_X5_copy _ jeV 77 [some (.ref (a0)), some (.ref (a1))] [] h21 _
  refine jv_aload_n (jv_dk t_X5_copy (k := 35) rfl) rfl rfl (Or.inr ⟨_, rfl⟩) ?_
  refine jv_aload_n (jv_dk t_X5_copy (k := 36) rfl) rfl rfl (Or.inr ⟨_, rfl⟩) ?_
  refine jv_gI (jv_dk t_X5_copy (k := 37) rfl) fl_X5_33 (fun v22 => ?_)
  refine jv_pV (jv_dk t_X5_copy (k := 38) rfl) fl_X5_33 kX5 (Or.inl rfl) rfl rfl rfl (fun h23 => ?_)
  refine jv_aload_n (jv_dk t_X5_copy (k := 39) rfl) rfl rfl (Or.inr ⟨_, rfl⟩) ?_
  refine jv_aload_n (jv_dk t_X5_copy (k := 40) rfl) rfl rfl (Or.inr ⟨_, rfl⟩) ?_
  refine jv_gI (jv_dk t_X5_copy (k := 41) rfl) fl_X5_37 (fun v24 => ?_)
  refine jv_pV (jv_dk t_X5_copy (k := 42) rfl) fl_X5_37 kX5 (Or.inl rfl) rfl rfl rfl (fun h25 => ?_)
  exact jv_vret (jv_dk t_X5_copy (k := 43) rfl) rfl rfl
def t0_X5_hasPower : List (Nat × Instr × Nat) := [(0, .aload_n 0, 1), (1, .getfield 37, 3), (4, .iload_n 1, 1), (5, .invokestatic 44, 3), (8, .ireturn, 1)]
theorem t_X5_hasPower : jv_dec cX5_hasPower t0_X5_hasPower = true := by decide +kernel
def M_X5_hasPower : jm := (yX5_hasPower, cX5_hasPower, 2, (some .boolean), 1, 21, [])
def f_X5_hasPower (a0 : Nat) (a1 : Int32) (h : jh) : Option (Int32 × jh) :=
  gI h a0 3 8 fun v1 =>
  bd (f_X12_holds v1 a1 h) fun v2 h3 =>
  jz v2 h3
theorem P_X5_hasPower (X : jx) (a0 : Nat) (a1 : Int32) (h : jh) : jv_P X M_X5_hasPower jeI [.ref (a0), .int (a1)] h (f_X5_hasPower a0 a1 h) := by
  refine jv_P.of (by decide) rfl (by simp [Value.category]) (Nat.le_of_ble_eq_true rfl) ?_
  show jv_O X M_X5_hasPower (h.1, h.2.1) jeI 0 [some (.ref (a0)), some (.int (a1))] [] h (f_X5_hasPower a0 a1 h)
  unfold f_X5_hasPower
  refine jv_aload_n (jv_dk t_X5_hasPower (k := 0) rfl) rfl rfl (Or.inr ⟨_, rfl⟩) ?_
  refine jv_gI (jv_dk t_X5_hasPower (k := 1) rfl) fl_X5_37 (fun v1 => ?_)
  refine jv_iload_n (jv_dk t_X5_hasPower (k := 2) rfl) rfl rfl ?_
  refine jv_callS (en' := jeI) (pv := jpI) (As := [.int (v1), .int (a1)]) (S := []) (jv_dk t_X5_hasPower (k := 3) rfl) (fun _ => rfl) lk_X5_44 me_X12_holds ms_X12_holds ⟨by decide, by decide⟩ rfl rfl (Nat.le_of_ble_eq_true rfl) (P_X12_holds X v1 a1 h) (fun v2 h3 => ?_)
  show jv_O X M_X5_hasPower _ jeI 8 [some (.ref (a0)), some (.int (a1))] [.int (v2)] h3 _
  unfold jz
  by_cases c4 : v2 &&& 1 = v2
  · rw [if_pos c4]; exact jv_iret (ty := .boolean) (jv_dk t_X5_hasPower (k := 4) rfl) rfl (jv_nb c4) rfl
  · rw [if_neg c4]; exact jv_none rfl
def t0_X5_setPower : List (Nat × Instr × Nat) := [(0, .aload_n 0, 1), (1, .iload_n 2, 1), (2, .ifCond .eq 14, 3), (5, .aload_n 0, 1), (6, .getfield 37, 3), (9, .iconst 1, 1), (10, .iload_n 1, 1), (11, .ishl, 1), (12, .ior, 1), (13, .goto 13, 3), (16, .aload_n 0, 1), (17, .getfield 37, 3), (20, .iconst 1, 1), (21, .iload_n 1, 1), (22, .ishl, 1), (23, .iconst (-1), 1), (24, .ixor, 1), (25, .iand, 1), (26, .putfield 37, 3), (29, .return_, 1)]
theorem t_X5_setPower : jv_dec cX5_setPower t0_X5_setPower = true := by decide +kernel
def M_X5_setPower : jm := (yX5_setPower, cX5_setPower, 3, none, 0, 0, [])
def f_X5_setPower (a0 : Nat) (a1 : Int32) (a2 : Int32) (h : jh) : Option (Unit × jh) :=
  (if a2 = 0 then
  gI h a0 3 8 fun v2 =>
  pV h a0 3 8 (.int (v2 &&& ((1 <<< (a1 &&& 31)) ^^^ (-1)))) fun h3 =>
  some ((), h3)
  else
  gI h a0 3 8 fun v4 =>
  pV h a0 3 8 (.int (v4 ||| (1 <<< (a1 &&& 31)))) fun h5 =>
  some ((), h5))
theorem P_X5_setPower (X : jx) (a0 : Nat) (a1 : Int32) (a2 : Int32) (h : jh) : jv_P X M_X5_setPower jeV [.ref (a0), .int (a1), .int (a2)] h (f_X5_setPower a0 a1 a2 h) := by
  refine jv_P.of (by decide) rfl (by simp [Value.category]) (Nat.le_of_ble_eq_true rfl) ?_
  show jv_O X M_X5_setPower (h.1, h.2.1) jeV 0 [some (.ref (a0)), some (.int (a1)), some (.int (a2))] [] h (f_X5_setPower a0 a1 a2 h)
  unfold f_X5_setPower
  refine jv_aload_n (jv_dk t_X5_setPower (k := 0) rfl) rfl rfl (Or.inr ⟨_, rfl⟩) ?_
  refine jv_iload_n (jv_dk t_X5_setPower (k := 1) rfl) rfl rfl ?_
  refine jv_if_eq (tgt := 16) (jv_dk t_X5_setPower (k := 2) rfl) rfl (fun c1 => ?_) (fun c1 => ?_)
  · refine jv_aload_n (jv_dk t_X5_setPower (k := 10) rfl) rfl rfl (Or.inr ⟨_, rfl⟩) ?_
    refine jv_gI (jv_dk t_X5_setPower (k := 11) rfl) fl_X5_37 (fun v2 => ?_)
    refine jv_iconst (v := 1) (jv_dk t_X5_setPower (k := 12) rfl) (by decide) ?_
    refine jv_iload_n (jv_dk t_X5_setPower (k := 13) rfl) rfl rfl ?_
    refine jv_ishl (jv_dk t_X5_setPower (k := 14) rfl) ?_
    refine jv_iconst (v := (-1)) (jv_dk t_X5_setPower (k := 15) rfl) (by decide) ?_
    refine jv_ixor (jv_dk t_X5_setPower (k := 16) rfl) ?_
    refine jv_iand (jv_dk t_X5_setPower (k := 17) rfl) ?_
    refine jv_pV (jv_dk t_X5_setPower (k := 18) rfl) fl_X5_37 kX5 (Or.inl rfl) rfl rfl rfl (fun h3 => ?_)
    exact jv_vret (jv_dk t_X5_setPower (k := 19) rfl) rfl rfl
  · show jv_O _ _ _ _ 5 _ _ _ _
    refine jv_aload_n (jv_dk t_X5_setPower (k := 3) rfl) rfl rfl (Or.inr ⟨_, rfl⟩) ?_
    refine jv_gI (jv_dk t_X5_setPower (k := 4) rfl) fl_X5_37 (fun v4 => ?_)
    refine jv_iconst (v := 1) (jv_dk t_X5_setPower (k := 5) rfl) (by decide) ?_
    refine jv_iload_n (jv_dk t_X5_setPower (k := 6) rfl) rfl rfl ?_
    refine jv_ishl (jv_dk t_X5_setPower (k := 7) rfl) ?_
    refine jv_ior (jv_dk t_X5_setPower (k := 8) rfl) ?_
    refine jv_goto (tgt := 26) (jv_dk t_X5_setPower (k := 9) rfl) rfl ?_
    refine jv_pV (jv_dk t_X5_setPower (k := 18) rfl) fl_X5_37 kX5 (Or.inl rfl) rfl rfl rfl (fun h5 => ?_)
    exact jv_vret (jv_dk t_X5_setPower (k := 19) rfl) rfl rfl
def t0_X5_leastFree : List (Nat × Instr × Nat) := [(0, .iconst 0, 1), (1, .istore_n 1, 1), (2, .iload_n 1, 1), (3, .bipush 16, 2), (5, .if_icmp .ge 22, 3), (8, .aload_n 0, 1), (9, .getfield 33, 3), (12, .iload_n 1, 1), (13, .invokestatic 44, 3), (16, .ifCond .ne 5, 3), (19, .iload_n 1, 1), (20, .ireturn, 1), (21, .iinc 1 1, 3), (24, .goto (-22), 3), (27, .iconst (-1), 1), (28, .ireturn, 1)]
theorem t_X5_leastFree : jv_dec cX5_leastFree t0_X5_leastFree = true := by decide +kernel
def M_X5_leastFree : jm := (yX5_leastFree, cX5_leastFree, 2, (some .int), 1, 21, [])
def f_X5_leastFree_h2 (K2 : jh → Option (Int32 × jh)) (R2 : Nat → Int32 → jh → Option (Int32 × jh)) (x0 : Nat) (x1 : Int32) (h : jh) : Option (Int32 × jh) :=
  (if 16 ≤ x1 then
  K2  h
  else
  gI h x0 3 7 fun v2 =>
  bd (f_X12_holds v2 x1 h) fun v3 h4 =>
  (if ¬ v3 = 0 then
  R2 x0 (x1 + 1) h4
  else
  some (x1, h4)))
theorem o_f_X5_leastFree_h2 {X : jx} {b0 : Nat × Nat} {K2 : jh → Option (Int32 × jh)} (hK2 : ∀  (h : jh), jv_O X M_X5_leastFree b0 jeI 27 [none, none] [] h (K2  h)) : ∀ (x0 : Nat) (x1 : Int32) (h : jh), jv_O X M_X5_leastFree b0 jeI 2 [some (.ref (x0)), some (.int (x1))] [] h (jlp2 (f_X5_leastFree_h2 K2) jfu x0 x1 h) := by
  refine jlp2_ok (P := fun x0 x1 h o => jv_O X M_X5_leastFree b0 jeI 2 [some (.ref (x0)), some (.int (x1))] [] h o) (fun R2 hR2 => ?_) (fun _ _ _  => jv_none rfl) jfu
  intro x0 x1 h
  unfold f_X5_leastFree_h2
  refine jv_iload_n (jv_dk t_X5_leastFree (k := 2) rfl) rfl rfl ?_
  refine jv_bipush (v := 16) (jv_dk t_X5_leastFree (k := 3) rfl) (by decide) ?_
  refine jv_icmp_ge (tgt := 27) (jv_dk t_X5_leastFree (k := 4) rfl) rfl (fun c1 => ?_) (fun c1 => ?_)
  · refine jv_le_row (jv_le_n (jv_le_n (jv_le_nil))) ?_
    exact hK2 _ 
  · show jv_O _ _ _ _ 8 _ _ _ _
    refine jv_aload_n (jv_dk t_X5_leastFree (k := 5) rfl) rfl rfl (Or.inr ⟨_, rfl⟩) ?_
    refine jv_gI (jv_dk t_X5_leastFree (k := 6) rfl) fl_X5_33 (fun v2 => ?_)
    refine jv_iload_n (jv_dk t_X5_leastFree (k := 7) rfl) rfl rfl ?_
    refine jv_callS (en' := jeI) (pv := jpI) (As := [.int (v2), .int (x1)]) (S := []) (jv_dk t_X5_leastFree (k := 8) rfl) (fun _ => rfl) lk_X5_44 me_X12_holds ms_X12_holds ⟨by decide, by decide⟩ rfl rfl (Nat.le_of_ble_eq_true rfl) (P_X12_holds X v2 x1 h) (fun v3 h4 => ?_)
    show jv_O X M_X5_leastFree _ jeI 16 [some (.ref (x0)), some (.int (x1))] [.int (v3)] h4 _
    refine jv_if_ne (tgt := 21) (jv_dk t_X5_leastFree (k := 9) rfl) rfl (fun c5 => ?_) (fun c5 => ?_)
    · refine jv_iinc (v := 1) (L' := [some (.ref (x0)), some (.int (x1 + 1))]) (jv_dk t_X5_leastFree (k := 12) rfl) rfl (by decide) rfl ?_
      refine jv_goto (tgt := 2) (jv_dk t_X5_leastFree (k := 13) rfl) rfl ?_
      exact hR2 _ _ _ 
    · show jv_O _ _ _ _ 19 _ _ _ _
      refine jv_iload_n (jv_dk t_X5_leastFree (k := 10) rfl) rfl rfl ?_
      exact jv_iret (ty := .int) (jv_dk t_X5_leastFree (k := 11) rfl) rfl rfl rfl
def f_X5_leastFree (a0 : Nat) (h : jh) : Option (Int32 × jh) :=
  jlp2 (f_X5_leastFree_h2 (fun  h6 =>
  some ((-1), h6))) jfu a0 0 h
theorem P_X5_leastFree (X : jx) (a0 : Nat) (h : jh) : jv_P X M_X5_leastFree jeI [.ref (a0)] h (f_X5_leastFree a0 h) := by
  refine jv_P.of (by decide) rfl (by simp [Value.category]) (Nat.le_of_ble_eq_true rfl) ?_
  show jv_O X M_X5_leastFree (h.1, h.2.1) jeI 0 [some (.ref (a0)), none] [] h (f_X5_leastFree a0 h)
  unfold f_X5_leastFree
  refine jv_iconst (v := 0) (jv_dk t_X5_leastFree (k := 0) rfl) (by decide) ?_
  refine jv_istore_n (L' := [some (.ref (a0)), some (.int (0))]) (jv_dk t_X5_leastFree (k := 1) rfl) rfl (Nat.le_of_ble_eq_true rfl) rfl ?_
  refine o_f_X5_leastFree_h2 (fun  h6 => ?_) _ _ _ 
  show jv_O X M_X5_leastFree _ jeI 27 [none, none] [] h6 _
  refine jv_iconst (v := (-1)) (jv_dk t_X5_leastFree (k := 14) rfl) (by decide) ?_
  exact jv_iret (ty := .int) (jv_dk t_X5_leastFree (k := 15) rfl) rfl rfl rfl
def t0_X5_numbersTaken : List (Nat × Instr × Nat) := [(0, .iconst 0, 1), (1, .istore_n 2, 1), (2, .iconst 0, 1), (3, .istore_n 3, 1), (4, .iload_n 3, 1), (5, .bipush 16, 2), (7, .if_icmp .ge 31, 3), (10, .aload_n 0, 1), (11, .getfield 33, 3), (14, .iload_n 3, 1), (15, .invokestatic 44, 3), (18, .ifCond .eq 14, 3), (21, .iload_n 2, 1), (22, .iconst 1, 1), (23, .aload_n 0, 1), (24, .iload_n 3, 1), (25, .iload_n 1, 1), (26, .invokevirtual 48, 3), (29, .ishl, 1), (30, .ior, 1), (31, .istore_n 2, 1), (32, .iinc 3 1, 3), (35, .goto (-31), 3), (38, .iload_n 2, 1), (39, .ireturn, 1)]
theorem t_X5_numbersTaken : jv_dec cX5_numbersTaken t0_X5_numbersTaken = true := by decide +kernel
def M_X5_numbersTaken : jm := (yX5_numbersTaken, cX5_numbersTaken, 4, (some .int), 1, 22, [])
def f_X5_numbersTaken_h4 (K4 : Int32 → jh → Option (Int32 × jh)) (R4 : Nat → Int32 → Int32 → Int32 → jh → Option (Int32 × jh)) (x0 : Nat) (x1 : Int32) (x2 : Int32) (x3 : Int32) (h : jh) : Option (Int32 × jh) :=
  (if 16 ≤ x3 then
  K4 x2 h
  else
  gI h x0 3 7 fun v2 =>
  bd (f_X12_holds v2 x3 h) fun v3 h4 =>
  (if v3 = 0 then
  R4 x0 x1 x2 (x3 + 1) h4
  else
  cV h4 x0 3 (f_X5_numberOf x0 x3 x1 h4) fun v6 h7 =>
  R4 x0 x1 (x2 ||| (1 <<< (v6 &&& 31))) (x3 + 1) h7))
theorem o_f_X5_numbersTaken_h4 {X : jx} {b0 : Nat × Nat} {K4 : Int32 → jh → Option (Int32 × jh)} (hK4 : ∀ (x2 : Int32) (h : jh), jv_O X M_X5_numbersTaken b0 jeI 38 [none, none, some (.int (x2)), none] [] h (K4 x2 h)) : ∀ (x0 : Nat) (x1 : Int32) (x2 : Int32) (x3 : Int32) (h : jh), jv_O X M_X5_numbersTaken b0 jeI 4 [some (.ref (x0)), some (.int (x1)), some (.int (x2)), some (.int (x3))] [] h (jlp4 (f_X5_numbersTaken_h4 K4) jfu x0 x1 x2 x3 h) := by
  refine jlp4_ok (P := fun x0 x1 x2 x3 h o => jv_O X M_X5_numbersTaken b0 jeI 4 [some (.ref (x0)), some (.int (x1)), some (.int (x2)), some (.int (x3))] [] h o) (fun R4 hR4 => ?_) (fun _ _ _ _ _  => jv_none rfl) jfu
  intro x0 x1 x2 x3 h
  unfold f_X5_numbersTaken_h4
  refine jv_iload_n (jv_dk t_X5_numbersTaken (k := 4) rfl) rfl rfl ?_
  refine jv_bipush (v := 16) (jv_dk t_X5_numbersTaken (k := 5) rfl) (by decide) ?_
  refine jv_icmp_ge (tgt := 38) (jv_dk t_X5_numbersTaken (k := 6) rfl) rfl (fun c1 => ?_) (fun c1 => ?_)
  · refine jv_le_row (jv_le_n (jv_le_n (jv_le_s (jv_le_n (jv_le_nil))))) ?_
    exact hK4 _ _ 
  · show jv_O _ _ _ _ 10 _ _ _ _
    refine jv_aload_n (jv_dk t_X5_numbersTaken (k := 7) rfl) rfl rfl (Or.inr ⟨_, rfl⟩) ?_
    refine jv_gI (jv_dk t_X5_numbersTaken (k := 8) rfl) fl_X5_33 (fun v2 => ?_)
    refine jv_iload_n (jv_dk t_X5_numbersTaken (k := 9) rfl) rfl rfl ?_
    refine jv_callS (en' := jeI) (pv := jpI) (As := [.int (v2), .int (x3)]) (S := []) (jv_dk t_X5_numbersTaken (k := 10) rfl) (fun _ => rfl) lk_X5_44 me_X12_holds ms_X12_holds ⟨by decide, by decide⟩ rfl rfl (Nat.le_of_ble_eq_true rfl) (P_X12_holds X v2 x3 h) (fun v3 h4 => ?_)
    show jv_O X M_X5_numbersTaken _ jeI 18 [some (.ref (x0)), some (.int (x1)), some (.int (x2)), some (.int (x3))] [.int (v3)] h4 _
    refine jv_if_eq (tgt := 32) (jv_dk t_X5_numbersTaken (k := 11) rfl) rfl (fun c5 => ?_) (fun c5 => ?_)
    · refine jv_iinc (v := 1) (L' := [some (.ref (x0)), some (.int (x1)), some (.int (x2)), some (.int (x3 + 1))]) (jv_dk t_X5_numbersTaken (k := 21) rfl) rfl (by decide) rfl ?_
      refine jv_goto (tgt := 4) (jv_dk t_X5_numbersTaken (k := 22) rfl) rfl ?_
      exact hR4 _ _ _ _ _ 
    · show jv_O _ _ _ _ 21 _ _ _ _
      refine jv_iload_n (jv_dk t_X5_numbersTaken (k := 12) rfl) rfl rfl ?_
      refine jv_iconst (v := 1) (jv_dk t_X5_numbersTaken (k := 13) rfl) (by decide) ?_
      refine jv_aload_n (jv_dk t_X5_numbersTaken (k := 14) rfl) rfl rfl (Or.inr ⟨_, rfl⟩) ?_
      refine jv_iload_n (jv_dk t_X5_numbersTaken (k := 15) rfl) rfl rfl ?_
      refine jv_iload_n (jv_dk t_X5_numbersTaken (k := 16) rfl) rfl rfl ?_
      refine jv_callV (en' := jeI) (pv := jpI) (As := [.int (x3), .int (x1)]) (S := [.int (1), .int (x2)]) (jv_dk t_X5_numbersTaken (k := 17) rfl) (fun _ => rfl) (Or.inl lk_X5_48) me_X5_numberOf mv_X5_numberOf ⟨by decide, by decide⟩ rfl rfl rfl (Nat.le_of_ble_eq_true rfl) (P_X5_numberOf X x0 x3 x1 h4) (fun v6 h7 => ?_)
      show jv_O X M_X5_numbersTaken _ jeI 29 [some (.ref (x0)), some (.int (x1)), some (.int (x2)), some (.int (x3))] [.int (v6), .int (1), .int (x2)] h7 _
      refine jv_ishl (jv_dk t_X5_numbersTaken (k := 18) rfl) ?_
      refine jv_ior (jv_dk t_X5_numbersTaken (k := 19) rfl) ?_
      refine jv_istore_n (L' := [some (.ref (x0)), some (.int (x1)), some (.int (x2 ||| (1 <<< (v6 &&& 31)))), some (.int (x3))]) (jv_dk t_X5_numbersTaken (k := 20) rfl) rfl (Nat.le_of_ble_eq_true rfl) rfl ?_
      refine jv_iinc (v := 1) (L' := [some (.ref (x0)), some (.int (x1)), some (.int (x2 ||| (1 <<< (v6 &&& 31)))), some (.int (x3 + 1))]) (jv_dk t_X5_numbersTaken (k := 21) rfl) rfl (by decide) rfl ?_
      refine jv_goto (tgt := 4) (jv_dk t_X5_numbersTaken (k := 22) rfl) rfl ?_
      exact hR4 _ _ _ _ _ 
def f_X5_numbersTaken (a0 : Nat) (a1 : Int32) (h : jh) : Option (Int32 × jh) :=
  jlp4 (f_X5_numbersTaken_h4 (fun y9 h8 =>
  some (y9, h8))) jfu a0 a1 0 0 h
theorem P_X5_numbersTaken (X : jx) (a0 : Nat) (a1 : Int32) (h : jh) : jv_P X M_X5_numbersTaken jeI [.ref (a0), .int (a1)] h (f_X5_numbersTaken a0 a1 h) := by
  refine jv_P.of (by decide) rfl (by simp [Value.category]) (Nat.le_of_ble_eq_true rfl) ?_
  show jv_O X M_X5_numbersTaken (h.1, h.2.1) jeI 0 [some (.ref (a0)), some (.int (a1)), none, none] [] h (f_X5_numbersTaken a0 a1 h)
  unfold f_X5_numbersTaken
  refine jv_iconst (v := 0) (jv_dk t_X5_numbersTaken (k := 0) rfl) (by decide) ?_
  refine jv_istore_n (L' := [some (.ref (a0)), some (.int (a1)), some (.int (0)), none]) (jv_dk t_X5_numbersTaken (k := 1) rfl) rfl (Nat.le_of_ble_eq_true rfl) rfl ?_
  refine jv_iconst (v := 0) (jv_dk t_X5_numbersTaken (k := 2) rfl) (by decide) ?_
  refine jv_istore_n (L' := [some (.ref (a0)), some (.int (a1)), some (.int (0)), some (.int (0))]) (jv_dk t_X5_numbersTaken (k := 3) rfl) rfl (Nat.le_of_ble_eq_true rfl) rfl ?_
  refine o_f_X5_numbersTaken_h4 (fun y9 h8 => ?_) _ _ _ _ _ 
  show jv_O X M_X5_numbersTaken _ jeI 38 [none, none, some (.int (y9)), none] [] h8 _
  refine jv_iload_n (jv_dk t_X5_numbersTaken (k := 23) rfl) rfl rfl ?_
  exact jv_iret (ty := .int) (jv_dk t_X5_numbersTaken (k := 24) rfl) rfl rfl rfl
def t0_X5_howManyIn : List (Nat × Instr × Nat) := [(0, .iload_n 1, 1), (1, .ifCond .ne 10, 3), (4, .aload_n 0, 1), (5, .getfield 15, 3), (8, .goto 19, 3), (11, .iload_n 1, 1), (12, .iconst 1, 1), (13, .if_icmp .ne 10, 3), (16, .aload_n 0, 1), (17, .getfield 18, 3), (20, .goto 7, 3), (23, .aload_n 0, 1), (24, .getfield 21, 3), (27, .astore_n 3, 1), (28, .iconst 0, 1), (29, .istore 4, 2), (31, .iconst 0, 1), (32, .istore 5, 2), (34, .iload 5, 2), (36, .bipush 16, 2), (38, .if_icmp .ge 32, 3), (41, .aload_n 0, 1), (42, .getfield 33, 3), (45, .iload 5, 2), (47, .invokestatic 44, 3), (50, .ifCond .eq 14, 3), (53, .aload_n 3, 1), (54, .iload 5, 2), (56, .iaload, 1), (57, .iload_n 2, 1), (58, .if_icmp .ne 6, 3), (61, .iinc 4 1, 3), (64, .iinc 5 1, 3), (67, .goto (-33), 3), (70, .iload 4, 2), (72, .ireturn, 1)]
theorem t_X5_howManyIn : jv_dec cX5_howManyIn t0_X5_howManyIn = true := by decide +kernel
def M_X5_howManyIn : jm := (yX5_howManyIn, cX5_howManyIn, 6, (some .int), 1, 21, [])
def f_X5_howManyIn_h34 (K34 : Int32 → jh → Option (Int32 × jh)) (R34 : Nat → Int32 → Nat → Int32 → Int32 → jh → Option (Int32 × jh)) (x0 : Nat) (x2 : Int32) (x3 : Nat) (x4 : Int32) (x5 : Int32) (h : jh) : Option (Int32 × jh) :=
  (if 16 ≤ x5 then
  K34 x4 h
  else
  gI h x0 3 7 fun v5 =>
  bd (f_X12_holds v5 x5 h) fun v6 h7 =>
  (if v6 = 0 then
  R34 x0 x2 x3 x4 (x5 + 1) h7
  else
  aI h7 x3 x5 fun v9 =>
  (if ¬ v9 = x2 then
  R34 x0 x2 x3 x4 (x5 + 1) h7
  else
  R34 x0 x2 x3 (x4 + 1) (x5 + 1) h7)))
theorem o_f_X5_howManyIn_h34 {X : jx} {b0 : Nat × Nat} {K34 : Int32 → jh → Option (Int32 × jh)} (hK34 : ∀ (x4 : Int32) (h : jh), jv_O X M_X5_howManyIn b0 jeI 70 [none, none, none, none, some (.int (x4)), none] [] h (K34 x4 h)) : ∀ (x0 : Nat) (x2 : Int32) (x3 : Nat) (x4 : Int32) (x5 : Int32) (h : jh), jv_O X M_X5_howManyIn b0 jeI 34 [some (.ref (x0)), none, some (.int (x2)), some (.ref (x3)), some (.int (x4)), some (.int (x5))] [] h (jlp5 (f_X5_howManyIn_h34 K34) jfu x0 x2 x3 x4 x5 h) := by
  refine jlp5_ok (P := fun x0 x2 x3 x4 x5 h o => jv_O X M_X5_howManyIn b0 jeI 34 [some (.ref (x0)), none, some (.int (x2)), some (.ref (x3)), some (.int (x4)), some (.int (x5))] [] h o) (fun R34 hR34 => ?_) (fun _ _ _ _ _ _  => jv_none rfl) jfu
  intro x0 x2 x3 x4 x5 h
  unfold f_X5_howManyIn_h34
  refine jv_iload (jv_dk t_X5_howManyIn (k := 18) rfl) rfl ?_
  refine jv_bipush (v := 16) (jv_dk t_X5_howManyIn (k := 19) rfl) (by decide) ?_
  refine jv_icmp_ge (tgt := 70) (jv_dk t_X5_howManyIn (k := 20) rfl) rfl (fun c4 => ?_) (fun c4 => ?_)
  · refine jv_le_row (jv_le_n (jv_le_n (jv_le_n (jv_le_n (jv_le_s (jv_le_n (jv_le_nil))))))) ?_
    exact hK34 _ _ 
  · show jv_O _ _ _ _ 41 _ _ _ _
    refine jv_aload_n (jv_dk t_X5_howManyIn (k := 21) rfl) rfl rfl (Or.inr ⟨_, rfl⟩) ?_
    refine jv_gI (jv_dk t_X5_howManyIn (k := 22) rfl) fl_X5_33 (fun v5 => ?_)
    refine jv_iload (jv_dk t_X5_howManyIn (k := 23) rfl) rfl ?_
    refine jv_callS (en' := jeI) (pv := jpI) (As := [.int (v5), .int (x5)]) (S := []) (jv_dk t_X5_howManyIn (k := 24) rfl) (fun _ => rfl) lk_X5_44 me_X12_holds ms_X12_holds ⟨by decide, by decide⟩ rfl rfl (Nat.le_of_ble_eq_true rfl) (P_X12_holds X v5 x5 h) (fun v6 h7 => ?_)
    show jv_O X M_X5_howManyIn _ jeI 50 [some (.ref (x0)), none, some (.int (x2)), some (.ref (x3)), some (.int (x4)), some (.int (x5))] [.int (v6)] h7 _
    refine jv_if_eq (tgt := 64) (jv_dk t_X5_howManyIn (k := 25) rfl) rfl (fun c8 => ?_) (fun c8 => ?_)
    · refine jv_iinc (v := 1) (L' := [some (.ref (x0)), none, some (.int (x2)), some (.ref (x3)), some (.int (x4)), some (.int (x5 + 1))]) (jv_dk t_X5_howManyIn (k := 32) rfl) rfl (by decide) rfl ?_
      refine jv_goto (tgt := 34) (jv_dk t_X5_howManyIn (k := 33) rfl) rfl ?_
      exact hR34 _ _ _ _ _ _ 
    · show jv_O _ _ _ _ 53 _ _ _ _
      refine jv_aload_n (jv_dk t_X5_howManyIn (k := 26) rfl) rfl rfl (Or.inr ⟨_, rfl⟩) ?_
      refine jv_iload (jv_dk t_X5_howManyIn (k := 27) rfl) rfl ?_
      refine jv_iaload (jv_dk t_X5_howManyIn (k := 28) rfl) (fun v9 => ?_)
      refine jv_iload_n (jv_dk t_X5_howManyIn (k := 29) rfl) rfl rfl ?_
      refine jv_icmp_ne (tgt := 64) (jv_dk t_X5_howManyIn (k := 30) rfl) rfl (fun c10 => ?_) (fun c10 => ?_)
      · refine jv_iinc (v := 1) (L' := [some (.ref (x0)), none, some (.int (x2)), some (.ref (x3)), some (.int (x4)), some (.int (x5 + 1))]) (jv_dk t_X5_howManyIn (k := 32) rfl) rfl (by decide) rfl ?_
        refine jv_goto (tgt := 34) (jv_dk t_X5_howManyIn (k := 33) rfl) rfl ?_
        exact hR34 _ _ _ _ _ _ 
      · show jv_O _ _ _ _ 61 _ _ _ _
        refine jv_iinc (v := 1) (L' := [some (.ref (x0)), none, some (.int (x2)), some (.ref (x3)), some (.int (x4 + 1)), some (.int (x5))]) (jv_dk t_X5_howManyIn (k := 31) rfl) rfl (by decide) rfl ?_
        refine jv_iinc (v := 1) (L' := [some (.ref (x0)), none, some (.int (x2)), some (.ref (x3)), some (.int (x4 + 1)), some (.int (x5 + 1))]) (jv_dk t_X5_howManyIn (k := 32) rfl) rfl (by decide) rfl ?_
        refine jv_goto (tgt := 34) (jv_dk t_X5_howManyIn (k := 33) rfl) rfl ?_
        exact hR34 _ _ _ _ _ _ 
def f_X5_howManyIn_b27 (x0 : Nat) (x2 : Int32) (s0 : Nat) (h : jh) : Option (Int32 × jh) :=
  jlp5 (f_X5_howManyIn_h34 (fun y12 h11 =>
  some (y12, h11))) jfu x0 x2 s0 0 0 h
theorem o_f_X5_howManyIn_b27 {X : jx} {b0 : Nat × Nat} (x0 : Nat) (x2 : Int32) (s0 : Nat) (h : jh) : jv_O X M_X5_howManyIn b0 jeI 27 [some (.ref (x0)), none, some (.int (x2)), none, none, none] [.ref (s0)] h (f_X5_howManyIn_b27 x0 x2 s0 h) := by
  unfold f_X5_howManyIn_b27
  refine jv_astore_n (L' := [some (.ref (x0)), none, some (.int (x2)), some (.ref (s0)), none, none]) (jv_dk t_X5_howManyIn (k := 13) rfl) rfl (Nat.le_of_ble_eq_true rfl) (Or.inr ⟨_, rfl⟩) rfl ?_
  refine jv_iconst (v := 0) (jv_dk t_X5_howManyIn (k := 14) rfl) (by decide) ?_
  refine jv_istore (L' := [some (.ref (x0)), none, some (.int (x2)), some (.ref (s0)), some (.int (0)), none]) (jv_dk t_X5_howManyIn (k := 15) rfl) (Nat.le_of_ble_eq_true rfl) rfl ?_
  refine jv_iconst (v := 0) (jv_dk t_X5_howManyIn (k := 16) rfl) (by decide) ?_
  refine jv_istore (L' := [some (.ref (x0)), none, some (.int (x2)), some (.ref (s0)), some (.int (0)), some (.int (0))]) (jv_dk t_X5_howManyIn (k := 17) rfl) (Nat.le_of_ble_eq_true rfl) rfl ?_
  refine o_f_X5_howManyIn_h34 (fun y12 h11 => ?_) _ _ _ _ _ _ 
  show jv_O X M_X5_howManyIn _ jeI 70 [none, none, none, none, some (.int (y12)), none] [] h11 _
  refine jv_iload (jv_dk t_X5_howManyIn (k := 34) rfl) rfl ?_
  exact jv_iret (ty := .int) (jv_dk t_X5_howManyIn (k := 35) rfl) rfl rfl rfl
def f_X5_howManyIn (a0 : Nat) (a1 : Int32) (a2 : Int32) (h : jh) : Option (Int32 × jh) :=
  (if ¬ a1 = 0 then
  (if ¬ a1 = 1 then
  gR h a0 3 3 fun v3 =>
  f_X5_howManyIn_b27 a0 a2 v3 h
  else
  gR h a0 3 2 fun v13 =>
  f_X5_howManyIn_b27 a0 a2 v13 h)
  else
  gR h a0 3 1 fun v14 =>
  f_X5_howManyIn_b27 a0 a2 v14 h)
theorem P_X5_howManyIn (X : jx) (a0 : Nat) (a1 : Int32) (a2 : Int32) (h : jh) : jv_P X M_X5_howManyIn jeI [.ref (a0), .int (a1), .int (a2)] h (f_X5_howManyIn a0 a1 a2 h) := by
  refine jv_P.of (by decide) rfl (by simp [Value.category]) (Nat.le_of_ble_eq_true rfl) ?_
  show jv_O X M_X5_howManyIn (h.1, h.2.1) jeI 0 [some (.ref (a0)), some (.int (a1)), some (.int (a2)), none, none, none] [] h (f_X5_howManyIn a0 a1 a2 h)
  unfold f_X5_howManyIn
  refine jv_iload_n (jv_dk t_X5_howManyIn (k := 0) rfl) rfl rfl ?_
  refine jv_if_ne (tgt := 11) (jv_dk t_X5_howManyIn (k := 1) rfl) rfl (fun c1 => ?_) (fun c1 => ?_)
  · refine jv_iload_n (jv_dk t_X5_howManyIn (k := 5) rfl) rfl rfl ?_
    refine jv_iconst (v := 1) (jv_dk t_X5_howManyIn (k := 6) rfl) (by decide) ?_
    refine jv_icmp_ne (tgt := 23) (jv_dk t_X5_howManyIn (k := 7) rfl) rfl (fun c2 => ?_) (fun c2 => ?_)
    · refine jv_aload_n (jv_dk t_X5_howManyIn (k := 11) rfl) rfl rfl (Or.inr ⟨_, rfl⟩) ?_
      refine jv_gR (jv_dk t_X5_howManyIn (k := 12) rfl) fl_X5_21 (fun v3 => ?_)
      refine jv_le_row (jv_le_s (jv_le_n (jv_le_s (jv_le_n (jv_le_n (jv_le_n (jv_le_nil))))))) ?_
      exact o_f_X5_howManyIn_b27 _ _ _ _ 
    · show jv_O _ _ _ _ 16 _ _ _ _
      refine jv_aload_n (jv_dk t_X5_howManyIn (k := 8) rfl) rfl rfl (Or.inr ⟨_, rfl⟩) ?_
      refine jv_gR (jv_dk t_X5_howManyIn (k := 9) rfl) fl_X5_18 (fun v13 => ?_)
      refine jv_goto (tgt := 27) (jv_dk t_X5_howManyIn (k := 10) rfl) rfl ?_
      refine jv_le_row (jv_le_s (jv_le_n (jv_le_s (jv_le_n (jv_le_n (jv_le_n (jv_le_nil))))))) ?_
      exact o_f_X5_howManyIn_b27 _ _ _ _ 
  · show jv_O _ _ _ _ 4 _ _ _ _
    refine jv_aload_n (jv_dk t_X5_howManyIn (k := 2) rfl) rfl rfl (Or.inr ⟨_, rfl⟩) ?_
    refine jv_gR (jv_dk t_X5_howManyIn (k := 3) rfl) fl_X5_15 (fun v14 => ?_)
    refine jv_goto (tgt := 27) (jv_dk t_X5_howManyIn (k := 4) rfl) rfl ?_
    refine jv_le_row (jv_le_s (jv_le_n (jv_le_s (jv_le_n (jv_le_n (jv_le_n (jv_le_nil))))))) ?_
    exact o_f_X5_howManyIn_b27 _ _ _ _ 
def t0_X5_add : List (Nat × Instr × Nat) := [(0, .aload_n 0, 1), (1, .getfield 9, 3), (4, .iload_n 1, 1), (5, .iload_n 2, 1), (6, .iastore, 1), (7, .aload_n 0, 1), (8, .getfield 15, 3), (11, .iload_n 1, 1), (12, .aload_n 0, 1), (13, .getfield 24, 3), (16, .iload_n 2, 1), (17, .iaload, 1), (18, .iastore, 1), (19, .aload_n 0, 1), (20, .getfield 18, 3), (23, .iload_n 1, 1), (24, .aload_n 0, 1), (25, .getfield 18, 3), (28, .iload_n 2, 1), (29, .iaload, 1), (30, .iastore, 1), (31, .aload_n 0, 1), (32, .getfield 21, 3), (35, .iload_n 1, 1), (36, .aload_n 0, 1), (37, .getfield 21, 3), (40, .iload_n 2, 1), (41, .iaload, 1), (42, .iastore, 1), (43, .aload_n 0, 1), (44, .getfield 24, 3), (47, .iload_n 1, 1), (48, .aload_n 0, 1), (49, .getfield 24, 3), (52, .iload_n 2, 1), (53, .iaload, 1), (54, .iastore, 1), (55, .aload_n 0, 1), (56, .getfield 27, 3), (59, .iload_n 1, 1), (60, .aload_n 0, 1), (61, .getfield 27, 3), (64, .iload_n 2, 1), (65, .iaload, 1), (66, .iastore, 1), (67, .aload_n 0, 1), (68, .dup, 1), (69, .getfield 33, 3), (72, .iconst 1, 1), (73, .iload_n 1, 1), (74, .ishl, 1), (75, .ior, 1), (76, .putfield 33, 3), (79, .aload_n 0, 1), (80, .iload_n 1, 1), (81, .aload_n 0, 1), (82, .iload_n 2, 1), (83, .invokevirtual 52, 3), (86, .invokevirtual 56, 3), (89, .iconst 0, 1), (90, .istore_n 3, 1), (91, .iload_n 3, 1), (92, .bipush 8, 2), (94, .if_icmp .ge 21, 3), (97, .aload_n 0, 1), (98, .getfield 30, 3), (101, .iload_n 1, 1), (102, .bipush 8, 2), (104, .imul, 1), (105, .iload_n 3, 1), (106, .iadd, 1), (107, .iconst 0, 1), (108, .iastore, 1), (109, .iinc 3 1, 3), (112, .goto (-21), 3), (115, .return_, 1)]
theorem t_X5_add : jv_dec cX5_add t0_X5_add = true := by decide +kernel
def M_X5_add : jm := (yX5_add, cX5_add, 4, none, 2, 42, [])
theorem lk_X5_52 : Cond.methodLink RX5 52 M_X5_hasPower.1 ∈ lw_tbl := (jv_at 643 (by decide +kernel))
set_option maxRecDepth 20000 in
theorem me_X5_hasPower : jv_me M_X5_hasPower 1 := ⟨(jv_in3 (List.mem_of_getElem? (i := 6) rfl)), (jv_at 164 (by decide +kernel)), ⟨by decide, by decide⟩, by decide +kernel⟩
theorem lk_X5_56 : Cond.methodLink RX5 56 M_X5_setPower.1 ∈ lw_tbl := (jv_at 647 (by decide +kernel))
set_option maxRecDepth 20000 in
theorem me_X5_setPower : jv_me M_X5_setPower 2 := ⟨(jv_in3 (List.mem_of_getElem? (i := 10) rfl)), (jv_at 164 (by decide +kernel)), ⟨by decide, by decide⟩, by decide +kernel⟩
theorem mv_X5_setPower : jv_mv M_X5_setPower := ⟨(jv_at 649 (by decide +kernel)), (jv_at 23 (by decide +kernel))⟩
theorem mv_X5_hasPower : jv_mv M_X5_hasPower := ⟨(jv_at 645 (by decide +kernel)), (jv_at 22 (by decide +kernel))⟩
def f_X5_add_h91 (K91 : jh → Option (Unit × jh)) (R91 : Nat → Int32 → Int32 → jh → Option (Unit × jh)) (x0 : Nat) (x1 : Int32) (x3 : Int32) (h : jh) : Option (Unit × jh) :=
  (if 8 ≤ x3 then
  K91  h
  else
  gR h x0 3 6 fun v29 =>
  sI h v29 ((x1 * 8) + x3) 0 fun h30 =>
  R91 x0 x1 (x3 + 1) h30)
theorem o_f_X5_add_h91 {X : jx} {b0 : Nat × Nat} {K91 : jh → Option (Unit × jh)} (hK91 : ∀  (h : jh), jv_O X M_X5_add b0 jeV 115 [none, none, none, none] [] h (K91  h)) : ∀ (x0 : Nat) (x1 : Int32) (x3 : Int32) (h : jh), jv_O X M_X5_add b0 jeV 91 [some (.ref (x0)), some (.int (x1)), none, some (.int (x3))] [] h (jlp3 (f_X5_add_h91 K91) jfu x0 x1 x3 h) := by
  refine jlp3_ok (P := fun x0 x1 x3 h o => jv_O X M_X5_add b0 jeV 91 [some (.ref (x0)), some (.int (x1)), none, some (.int (x3))] [] h o) (fun R91 hR91 => ?_) (fun _ _ _ _  => jv_none rfl) jfu
  intro x0 x1 x3 h
  unfold f_X5_add_h91
  refine jv_iload_n (jv_dk t_X5_add (k := 61) rfl) rfl rfl ?_
  refine jv_bipush (v := 8) (jv_dk t_X5_add (k := 62) rfl) (by decide) ?_
  refine jv_icmp_ge (tgt := 115) (jv_dk t_X5_add (k := 63) rfl) rfl (fun c28 => ?_) (fun c28 => ?_)
  · refine jv_le_row (jv_le_n (jv_le_n (jv_le_n (jv_le_n (jv_le_nil))))) ?_
    exact hK91 _ 
  · show jv_O _ _ _ _ 97 _ _ _ _
    refine jv_aload_n (jv_dk t_X5_add (k := 64) rfl) rfl rfl (Or.inr ⟨_, rfl⟩) ?_
    refine jv_gR (jv_dk t_X5_add (k := 65) rfl) fl_X5_30 (fun v29 => ?_)
    refine jv_iload_n (jv_dk t_X5_add (k := 66) rfl) rfl rfl ?_
    refine jv_bipush (v := 8) (jv_dk t_X5_add (k := 67) rfl) (by decide) ?_
    refine jv_imul (jv_dk t_X5_add (k := 68) rfl) ?_
    refine jv_iload_n (jv_dk t_X5_add (k := 69) rfl) rfl rfl ?_
    refine jv_iadd (jv_dk t_X5_add (k := 70) rfl) ?_
    refine jv_iconst (v := 0) (jv_dk t_X5_add (k := 71) rfl) (by decide) ?_
    refine jv_iastore (jv_dk t_X5_add (k := 72) rfl) (fun h30 => ?_)
    refine jv_iinc (v := 1) (L' := [some (.ref (x0)), some (.int (x1)), none, some (.int (x3 + 1))]) (jv_dk t_X5_add (k := 73) rfl) rfl (by decide) rfl ?_
    refine jv_goto (tgt := 91) (jv_dk t_X5_add (k := 74) rfl) rfl ?_
    exact hR91 _ _ _ _ 
def f_X5_add (a0 : Nat) (a1 : Int32) (a2 : Int32) (h : jh) : Option (Unit × jh) :=
  gR h a0 3 0 fun v1 =>
  sI h v1 a1 a2 fun h2 =>
  gR h2 a0 3 1 fun v3 =>
  gR h2 a0 3 4 fun v4 =>
  aI h2 v4 a2 fun v5 =>
  sI h2 v3 a1 v5 fun h6 =>
  gR h6 a0 3 2 fun v7 =>
  gR h6 a0 3 2 fun v8 =>
  aI h6 v8 a2 fun v9 =>
  sI h6 v7 a1 v9 fun h10 =>
  gR h10 a0 3 3 fun v11 =>
  gR h10 a0 3 3 fun v12 =>
  aI h10 v12 a2 fun v13 =>
  sI h10 v11 a1 v13 fun h14 =>
  gR h14 a0 3 4 fun v15 =>
  gR h14 a0 3 4 fun v16 =>
  aI h14 v16 a2 fun v17 =>
  sI h14 v15 a1 v17 fun h18 =>
  gR h18 a0 3 5 fun v19 =>
  gR h18 a0 3 5 fun v20 =>
  aI h18 v20 a2 fun v21 =>
  sI h18 v19 a1 v21 fun h22 =>
  gI h22 a0 3 7 fun v23 =>
  pV h22 a0 3 7 (.int (v23 ||| (1 <<< (a1 &&& 31)))) fun h24 =>
  cV h24 a0 3 (f_X5_hasPower a0 a2 h24) fun v25 h26 =>
  cV h26 a0 3 (f_X5_setPower a0 a1 v25 h26) fun _ h27 =>
  jlp3 (f_X5_add_h91 (fun  h31 =>
  some ((), h31))) jfu a0 a1 0 h27
theorem P_X5_add (X : jx) (a0 : Nat) (a1 : Int32) (a2 : Int32) (h : jh) : jv_P X M_X5_add jeV [.ref (a0), .int (a1), .int (a2)] h (f_X5_add a0 a1 a2 h) := by
  refine jv_P.of (by decide) rfl (by simp [Value.category]) (Nat.le_of_ble_eq_true rfl) ?_
  show jv_O X M_X5_add (h.1, h.2.1) jeV 0 [some (.ref (a0)), some (.int (a1)), some (.int (a2)), none] [] h (f_X5_add a0 a1 a2 h)
  unfold f_X5_add
  refine jv_aload_n (jv_dk t_X5_add (k := 0) rfl) rfl rfl (Or.inr ⟨_, rfl⟩) ?_
  refine jv_gR (jv_dk t_X5_add (k := 1) rfl) fl_X5_9 (fun v1 => ?_)
  refine jv_iload_n (jv_dk t_X5_add (k := 2) rfl) rfl rfl ?_
  refine jv_iload_n (jv_dk t_X5_add (k := 3) rfl) rfl rfl ?_
  refine jv_iastore (jv_dk t_X5_add (k := 4) rfl) (fun h2 => ?_)
  refine jv_aload_n (jv_dk t_X5_add (k := 5) rfl) rfl rfl (Or.inr ⟨_, rfl⟩) ?_
  refine jv_gR (jv_dk t_X5_add (k := 6) rfl) fl_X5_15 (fun v3 => ?_)
  refine jv_iload_n (jv_dk t_X5_add (k := 7) rfl) rfl rfl ?_
  refine jv_aload_n (jv_dk t_X5_add (k := 8) rfl) rfl rfl (Or.inr ⟨_, rfl⟩) ?_
  refine jv_gR (jv_dk t_X5_add (k := 9) rfl) fl_X5_24 (fun v4 => ?_)
  refine jv_iload_n (jv_dk t_X5_add (k := 10) rfl) rfl rfl ?_
  refine jv_iaload (jv_dk t_X5_add (k := 11) rfl) (fun v5 => ?_)
  refine jv_iastore (jv_dk t_X5_add (k := 12) rfl) (fun h6 => ?_)
  refine jv_aload_n (jv_dk t_X5_add (k := 13) rfl) rfl rfl (Or.inr ⟨_, rfl⟩) ?_
  refine jv_gR (jv_dk t_X5_add (k := 14) rfl) fl_X5_18 (fun v7 => ?_)
  refine jv_iload_n (jv_dk t_X5_add (k := 15) rfl) rfl rfl ?_
  refine jv_aload_n (jv_dk t_X5_add (k := 16) rfl) rfl rfl (Or.inr ⟨_, rfl⟩) ?_
  refine jv_gR (jv_dk t_X5_add (k := 17) rfl) fl_X5_18 (fun v8 => ?_)
  refine jv_iload_n (jv_dk t_X5_add (k := 18) rfl) rfl rfl ?_
  refine jv_iaload (jv_dk t_X5_add (k := 19) rfl) (fun v9 => ?_)
  refine jv_iastore (jv_dk t_X5_add (k := 20) rfl) (fun h10 => ?_)
  refine jv_aload_n (jv_dk t_X5_add (k := 21) rfl) rfl rfl (Or.inr ⟨_, rfl⟩) ?_
  refine jv_gR (jv_dk t_X5_add (k := 22) rfl) fl_X5_21 (fun v11 => ?_)
  refine jv_iload_n (jv_dk t_X5_add (k := 23) rfl) rfl rfl ?_
  refine jv_aload_n (jv_dk t_X5_add (k := 24) rfl) rfl rfl (Or.inr ⟨_, rfl⟩) ?_
  refine jv_gR (jv_dk t_X5_add (k := 25) rfl) fl_X5_21 (fun v12 => ?_)
  refine jv_iload_n (jv_dk t_X5_add (k := 26) rfl) rfl rfl ?_
  refine jv_iaload (jv_dk t_X5_add (k := 27) rfl) (fun v13 => ?_)
  refine jv_iastore (jv_dk t_X5_add (k := 28) rfl) (fun h14 => ?_)
  refine jv_aload_n (jv_dk t_X5_add (k := 29) rfl) rfl rfl (Or.inr ⟨_, rfl⟩) ?_
  refine jv_gR (jv_dk t_X5_add (k := 30) rfl) fl_X5_24 (fun v15 => ?_)
  refine jv_iload_n (jv_dk t_X5_add (k := 31) rfl) rfl rfl ?_
  refine jv_aload_n (jv_dk t_X5_add (k := 32) rfl) rfl rfl (Or.inr ⟨_, rfl⟩) ?_
  refine jv_gR (jv_dk t_X5_add (k := 33) rfl) fl_X5_24 (fun v16 => ?_)
  refine jv_iload_n (jv_dk t_X5_add (k := 34) rfl) rfl rfl ?_
  refine jv_iaload (jv_dk t_X5_add (k := 35) rfl) (fun v17 => ?_)
  refine jv_iastore (jv_dk t_X5_add (k := 36) rfl) (fun h18 => ?_)
  refine jv_aload_n (jv_dk t_X5_add (k := 37) rfl) rfl rfl (Or.inr ⟨_, rfl⟩) ?_
  refine jv_gR (jv_dk t_X5_add (k := 38) rfl) fl_X5_27 (fun v19 => ?_)
  refine jv_iload_n (jv_dk t_X5_add (k := 39) rfl) rfl rfl ?_
  refine jv_aload_n (jv_dk t_X5_add (k := 40) rfl) rfl rfl (Or.inr ⟨_, rfl⟩) ?_
  refine jv_gR (jv_dk t_X5_add (k := 41) rfl) fl_X5_27 (fun v20 => ?_)
  refine jv_iload_n (jv_dk t_X5_add (k := 42) rfl) rfl rfl ?_
  refine jv_iaload (jv_dk t_X5_add (k := 43) rfl) (fun v21 => ?_)
  refine jv_iastore (jv_dk t_X5_add (k := 44) rfl) (fun h22 => ?_)
  refine jv_aload_n (jv_dk t_X5_add (k := 45) rfl) rfl rfl (Or.inr ⟨_, rfl⟩) ?_
  refine jv_dup (jv_dk t_X5_add (k := 46) rfl) rfl ?_
  refine jv_gI (jv_dk t_X5_add (k := 47) rfl) fl_X5_33 (fun v23 => ?_)
  refine jv_iconst (v := 1) (jv_dk t_X5_add (k := 48) rfl) (by decide) ?_
  refine jv_iload_n (jv_dk t_X5_add (k := 49) rfl) rfl rfl ?_
  refine jv_ishl (jv_dk t_X5_add (k := 50) rfl) ?_
  refine jv_ior (jv_dk t_X5_add (k := 51) rfl) ?_
  refine jv_pV (jv_dk t_X5_add (k := 52) rfl) fl_X5_33 kX5 (Or.inl rfl) rfl rfl rfl (fun h24 => ?_)
  refine jv_aload_n (jv_dk t_X5_add (k := 53) rfl) rfl rfl (Or.inr ⟨_, rfl⟩) ?_
  refine jv_iload_n (jv_dk t_X5_add (k := 54) rfl) rfl rfl ?_
  refine jv_aload_n (jv_dk t_X5_add (k := 55) rfl) rfl rfl (Or.inr ⟨_, rfl⟩) ?_
  refine jv_iload_n (jv_dk t_X5_add (k := 56) rfl) rfl rfl ?_
  refine jv_callV (en' := jeI) (pv := jpI) (As := [.int (a2)]) (S := [.int (a1), .ref (a0)]) (jv_dk t_X5_add (k := 57) rfl) (fun _ => rfl) (Or.inl lk_X5_52) me_X5_hasPower mv_X5_hasPower ⟨by decide, by decide⟩ rfl rfl rfl (Nat.le_of_ble_eq_true rfl) (P_X5_hasPower X a0 a2 h24) (fun v25 h26 => ?_)
  show jv_O X M_X5_add _ jeV 86 [some (.ref (a0)), some (.int (a1)), some (.int (a2)), none] [.int (v25), .int (a1), .ref (a0)] h26 _
  refine jv_callV (en' := jeV) (pv := jpV) (As := [.int (a1), .int (v25)]) (S := []) (jv_dk t_X5_add (k := 58) rfl) (fun _ => rfl) (Or.inl lk_X5_56) me_X5_setPower mv_X5_setPower ⟨by decide, by decide⟩ rfl rfl rfl (Nat.le_of_ble_eq_true rfl) (P_X5_setPower X a0 a1 v25 h26) (fun _ h27 => ?_)
  show jv_O X M_X5_add _ jeV 89 [some (.ref (a0)), some (.int (a1)), some (.int (a2)), none] [] h27 _
  refine jv_iconst (v := 0) (jv_dk t_X5_add (k := 59) rfl) (by decide) ?_
  refine jv_istore_n (L' := [some (.ref (a0)), some (.int (a1)), some (.int (a2)), some (.int (0))]) (jv_dk t_X5_add (k := 60) rfl) rfl (Nat.le_of_ble_eq_true rfl) rfl ?_
  refine jv_le_row (jv_le_s (jv_le_s (jv_le_n (jv_le_s (jv_le_nil))))) ?_
  refine o_f_X5_add_h91 (fun  h31 => ?_) _ _ _ _ 
  show jv_O X M_X5_add _ jeV 115 [none, none, none, none] [] h31 _
  exact jv_vret (jv_dk t_X5_add (k := 75) rfl) rfl rfl
def t0_X6_init : List (Nat × Instr × Nat) := [(0, .aload_n 0, 1), (1, .invokespecial 3, 3), (4, .aload_n 0, 1), (5, .sipush 900, 3), (8, .newarray .int, 2), (10, .putfield 9, 3), (13, .aload_n 0, 1), (14, .iconst 5, 1), (15, .newarray .int, 2), (17, .putfield 15, 3), (20, .aload_n 0, 1), (21, .iconst 0, 1), (22, .putfield 18, 3), (25, .aload_n 0, 1), (26, .iconst 0, 1), (27, .putfield 22, 3), (30, .aload_n 0, 1), (31, .iconst 0, 1), (32, .putfield 25, 3), (35, .aload_n 0, 1), (36, .iconst 0, 1), (37, .putfield 28, 3), (40, .aload_n 0, 1), (41, .iconst 0, 1), (42, .putfield 31, 3), (45, .return_, 1)]
theorem t_X6_init : jv_dec cX6_init t0_X6_init = true := by decide +kernel
def M_X6_init : jm := (yX6_init, cX6_init, 1, none, 1, 20, [])
theorem oi_X6_3 : Cond.methodLink RX6 3 Lib.objectInit ∈ lw_tbl := (jv_at 458 (by decide +kernel))
theorem fl_X6_9 : jv_F RX6 9 4 0 RX6 TX6 7 := ⟨rfl, by decide, inX6, Or.inl (jv_at 459 (by decide +kernel))⟩
theorem ff_X6_9 : Cond.fieldLink RX6 9 (TX6 0).1 (TX6 0).2.1 (TX6 0).2.2.1 ∈ lw_tbl := (jv_at 459 (by decide +kernel))
theorem fl_X6_15 : jv_F RX6 15 4 1 RX6 TX6 7 := ⟨rfl, by decide, inX6, Or.inl (jv_at 460 (by decide +kernel))⟩
theorem ff_X6_15 : Cond.fieldLink RX6 15 (TX6 1).1 (TX6 1).2.1 (TX6 1).2.2.1 ∈ lw_tbl := (jv_at 460 (by decide +kernel))
theorem fl_X6_18 : jv_F RX6 18 4 2 RX6 TX6 7 := ⟨rfl, by decide, inX6, Or.inl (jv_at 461 (by decide +kernel))⟩
theorem fl_X6_22 : jv_F RX6 22 4 3 RX6 TX6 7 := ⟨rfl, by decide, inX6, Or.inl (jv_at 463 (by decide +kernel))⟩
theorem fl_X6_25 : jv_F RX6 25 4 4 RX6 TX6 7 := ⟨rfl, by decide, inX6, Or.inl (jv_at 464 (by decide +kernel))⟩
theorem fl_X6_28 : jv_F RX6 28 4 5 RX6 TX6 7 := ⟨rfl, by decide, inX6, Or.inl (jv_at 465 (by decide +kernel))⟩
theorem fl_X6_31 : jv_F RX6 31 4 6 RX6 TX6 7 := ⟨rfl, by decide, inX6, Or.inl (jv_at 467 (by decide +kernel))⟩
def f_X6_init (a0 : Nat) (h : jh) : Option (Unit × jh) :=
  nI4 h 900 fun q1 h2 =>
  pV h2 a0 4 0 (.ref (q1)) fun h3 =>
  nI4 h3 5 fun q4 h5 =>
  pV h5 a0 4 1 (.ref (q4)) fun h6 =>
  pV h6 a0 4 2 (.int (0)) fun h7 =>
  pV h7 a0 4 3 (.int (0)) fun h8 =>
  pV h8 a0 4 4 (.int (0)) fun h9 =>
  pV h9 a0 4 5 (.int (0)) fun h10 =>
  pV h10 a0 4 6 (.int (0)) fun h11 =>
  some ((), h11)
theorem P_X6_init (X : jx) (a0 : Nat) (h : jh) : jv_P X M_X6_init jeV [.ref (a0)] h (f_X6_init a0 h) := by
  refine jv_P.of (by decide) rfl (by simp [Value.category]) (Nat.le_of_ble_eq_true rfl) ?_
  show jv_O X M_X6_init (h.1, h.2.1) jeV 0 [some (.ref (a0))] [] h (f_X6_init a0 h)
  unfold f_X6_init
  refine jv_aload_n (jv_dk t_X6_init (k := 0) rfl) rfl rfl (Or.inr ⟨_, rfl⟩) ?_
  refine jv_obj (jv_dk t_X6_init (k := 1) rfl) oi_X6_3 oi_2 oi_3 (Nat.le_of_ble_eq_true rfl) ⟨by decide, by decide⟩ ?_
  refine jv_aload_n (jv_dk t_X6_init (k := 2) rfl) rfl rfl (Or.inr ⟨_, rfl⟩) ?_
  refine jv_sipush (v := 900) (jv_dk t_X6_init (k := 3) rfl) (by decide) ?_
  refine jv_newI (jv_dk t_X6_init (k := 4) rfl) ac_I (fun q1 h2 => ?_)
  refine jv_pV (jv_dk t_X6_init (k := 5) rfl) fl_X6_9 kX6 (Or.inr ⟨rfl, rfl, rfl, ff_X6_9⟩) rfl rfl rfl (fun h3 => ?_)
  refine jv_aload_n (jv_dk t_X6_init (k := 6) rfl) rfl rfl (Or.inr ⟨_, rfl⟩) ?_
  refine jv_iconst (v := 5) (jv_dk t_X6_init (k := 7) rfl) (by decide) ?_
  refine jv_newI (jv_dk t_X6_init (k := 8) rfl) ac_I (fun q4 h5 => ?_)
  refine jv_pV (jv_dk t_X6_init (k := 9) rfl) fl_X6_15 kX6 (Or.inr ⟨rfl, rfl, rfl, ff_X6_15⟩) rfl rfl rfl (fun h6 => ?_)
  refine jv_aload_n (jv_dk t_X6_init (k := 10) rfl) rfl rfl (Or.inr ⟨_, rfl⟩) ?_
  refine jv_iconst (v := 0) (jv_dk t_X6_init (k := 11) rfl) (by decide) ?_
  refine jv_pV (jv_dk t_X6_init (k := 12) rfl) fl_X6_18 kX6 (Or.inl rfl) rfl rfl rfl (fun h7 => ?_)
  refine jv_aload_n (jv_dk t_X6_init (k := 13) rfl) rfl rfl (Or.inr ⟨_, rfl⟩) ?_
  refine jv_iconst (v := 0) (jv_dk t_X6_init (k := 14) rfl) (by decide) ?_
  refine jv_pV (jv_dk t_X6_init (k := 15) rfl) fl_X6_22 kX6 (Or.inl rfl) rfl rfl rfl (fun h8 => ?_)
  refine jv_aload_n (jv_dk t_X6_init (k := 16) rfl) rfl rfl (Or.inr ⟨_, rfl⟩) ?_
  refine jv_iconst (v := 0) (jv_dk t_X6_init (k := 17) rfl) (by decide) ?_
  refine jv_pV (jv_dk t_X6_init (k := 18) rfl) fl_X6_25 kX6 (Or.inl rfl) rfl rfl rfl (fun h9 => ?_)
  refine jv_aload_n (jv_dk t_X6_init (k := 19) rfl) rfl rfl (Or.inr ⟨_, rfl⟩) ?_
  refine jv_iconst (v := 0) (jv_dk t_X6_init (k := 20) rfl) (by decide) ?_
  refine jv_pV (jv_dk t_X6_init (k := 21) rfl) fl_X6_28 kX6 (Or.inl rfl) rfl rfl rfl (fun h10 => ?_)
  refine jv_aload_n (jv_dk t_X6_init (k := 22) rfl) rfl rfl (Or.inr ⟨_, rfl⟩) ?_
  refine jv_iconst (v := 0) (jv_dk t_X6_init (k := 23) rfl) (by decide) ?_
  refine jv_pV (jv_dk t_X6_init (k := 24) rfl) fl_X6_31 kX6 (Or.inl rfl) rfl rfl rfl (fun h11 => ?_)
  exact jv_vret (jv_dk t_X6_init (k := 25) rfl) rfl rfl
def t0_X6_append : List (Nat × Instr × Nat) := [(0, .bipush 24, 2), (2, .istore_n 2, 1), (3, .iload_n 2, 1), (4, .ifCond .lt 45, 3), (7, .aload_n 0, 1), (8, .getfield 18, 3), (11, .sipush 900, 3), (14, .if_icmp .ge 35, 3), (17, .aload_n 0, 1), (18, .getfield 9, 3), (21, .aload_n 0, 1), (22, .getfield 18, 3), (25, .iload_n 1, 1), (26, .iload_n 2, 1), (27, .iushr, 1), (28, .sipush 255, 3), (31, .iand, 1), (32, .iastore, 1), (33, .aload_n 0, 1), (34, .dup, 1), (35, .getfield 18, 3), (38, .iconst 1, 1), (39, .iadd, 1), (40, .putfield 18, 3), (43, .iinc 2 (-8), 3), (46, .goto (-43), 3), (49, .return_, 1)]
theorem t_X6_append : jv_dec cX6_append t0_X6_append = true := by decide +kernel
def M_X6_append : jm := (yX6_append, cX6_append, 3, none, 0, 0, [])
def f_X6_append_h3 (K3 : jh → Option (Unit × jh)) (R3 : Nat → Int32 → Int32 → jh → Option (Unit × jh)) (x0 : Nat) (x1 : Int32) (x2 : Int32) (h : jh) : Option (Unit × jh) :=
  (if x2 < 0 then
  K3  h
  else
  gI h x0 4 2 fun v2 =>
  (if 900 ≤ v2 then
  K3  h
  else
  gR h x0 4 0 fun v4 =>
  gI h x0 4 2 fun v5 =>
  sI h v4 v5 (((x1.toUInt32 >>> (x2.toUInt32 &&& Int32.toUInt32 31)).toInt32) &&& 255) fun h6 =>
  gI h6 x0 4 2 fun v7 =>
  pV h6 x0 4 2 (.int (v7 + 1)) fun h8 =>
  R3 x0 x1 (x2 + (-8)) h8))
theorem o_f_X6_append_h3 {X : jx} {b0 : Nat × Nat} {K3 : jh → Option (Unit × jh)} (hK3 : ∀  (h : jh), jv_O X M_X6_append b0 jeV 49 [none, none, none] [] h (K3  h)) : ∀ (x0 : Nat) (x1 : Int32) (x2 : Int32) (h : jh), jv_O X M_X6_append b0 jeV 3 [some (.ref (x0)), some (.int (x1)), some (.int (x2))] [] h (jlp3 (f_X6_append_h3 K3) jfu x0 x1 x2 h) := by
  refine jlp3_ok (P := fun x0 x1 x2 h o => jv_O X M_X6_append b0 jeV 3 [some (.ref (x0)), some (.int (x1)), some (.int (x2))] [] h o) (fun R3 hR3 => ?_) (fun _ _ _ _  => jv_none rfl) jfu
  intro x0 x1 x2 h
  unfold f_X6_append_h3
  refine jv_iload_n (jv_dk t_X6_append (k := 2) rfl) rfl rfl ?_
  refine jv_if_lt (tgt := 49) (jv_dk t_X6_append (k := 3) rfl) rfl (fun c1 => ?_) (fun c1 => ?_)
  · refine jv_le_row (jv_le_n (jv_le_n (jv_le_n (jv_le_nil)))) ?_
    exact hK3 _ 
  · show jv_O _ _ _ _ 7 _ _ _ _
    refine jv_aload_n (jv_dk t_X6_append (k := 4) rfl) rfl rfl (Or.inr ⟨_, rfl⟩) ?_
    refine jv_gI (jv_dk t_X6_append (k := 5) rfl) fl_X6_18 (fun v2 => ?_)
    refine jv_sipush (v := 900) (jv_dk t_X6_append (k := 6) rfl) (by decide) ?_
    refine jv_icmp_ge (tgt := 49) (jv_dk t_X6_append (k := 7) rfl) rfl (fun c3 => ?_) (fun c3 => ?_)
    · refine jv_le_row (jv_le_n (jv_le_n (jv_le_n (jv_le_nil)))) ?_
      exact hK3 _ 
    · show jv_O _ _ _ _ 17 _ _ _ _
      refine jv_aload_n (jv_dk t_X6_append (k := 8) rfl) rfl rfl (Or.inr ⟨_, rfl⟩) ?_
      refine jv_gR (jv_dk t_X6_append (k := 9) rfl) fl_X6_9 (fun v4 => ?_)
      refine jv_aload_n (jv_dk t_X6_append (k := 10) rfl) rfl rfl (Or.inr ⟨_, rfl⟩) ?_
      refine jv_gI (jv_dk t_X6_append (k := 11) rfl) fl_X6_18 (fun v5 => ?_)
      refine jv_iload_n (jv_dk t_X6_append (k := 12) rfl) rfl rfl ?_
      refine jv_iload_n (jv_dk t_X6_append (k := 13) rfl) rfl rfl ?_
      refine jv_iushr (jv_dk t_X6_append (k := 14) rfl) ?_
      refine jv_sipush (v := 255) (jv_dk t_X6_append (k := 15) rfl) (by decide) ?_
      refine jv_iand (jv_dk t_X6_append (k := 16) rfl) ?_
      refine jv_iastore (jv_dk t_X6_append (k := 17) rfl) (fun h6 => ?_)
      refine jv_aload_n (jv_dk t_X6_append (k := 18) rfl) rfl rfl (Or.inr ⟨_, rfl⟩) ?_
      refine jv_dup (jv_dk t_X6_append (k := 19) rfl) rfl ?_
      refine jv_gI (jv_dk t_X6_append (k := 20) rfl) fl_X6_18 (fun v7 => ?_)
      refine jv_iconst (v := 1) (jv_dk t_X6_append (k := 21) rfl) (by decide) ?_
      refine jv_iadd (jv_dk t_X6_append (k := 22) rfl) ?_
      refine jv_pV (jv_dk t_X6_append (k := 23) rfl) fl_X6_18 kX6 (Or.inl rfl) rfl rfl rfl (fun h8 => ?_)
      refine jv_iinc (v := (-8)) (L' := [some (.ref (x0)), some (.int (x1)), some (.int (x2 + (-8)))]) (jv_dk t_X6_append (k := 24) rfl) rfl (by decide) rfl ?_
      refine jv_goto (tgt := 3) (jv_dk t_X6_append (k := 25) rfl) rfl ?_
      exact hR3 _ _ _ _ 
def f_X6_append (a0 : Nat) (a1 : Int32) (h : jh) : Option (Unit × jh) :=
  jlp3 (f_X6_append_h3 (fun  h9 =>
  some ((), h9))) jfu a0 a1 24 h
theorem P_X6_append (X : jx) (a0 : Nat) (a1 : Int32) (h : jh) : jv_P X M_X6_append jeV [.ref (a0), .int (a1)] h (f_X6_append a0 a1 h) := by
  refine jv_P.of (by decide) rfl (by simp [Value.category]) (Nat.le_of_ble_eq_true rfl) ?_
  show jv_O X M_X6_append (h.1, h.2.1) jeV 0 [some (.ref (a0)), some (.int (a1)), none] [] h (f_X6_append a0 a1 h)
  unfold f_X6_append
  refine jv_bipush (v := 24) (jv_dk t_X6_append (k := 0) rfl) (by decide) ?_
  refine jv_istore_n (L' := [some (.ref (a0)), some (.int (a1)), some (.int (24))]) (jv_dk t_X6_append (k := 1) rfl) rfl (Nat.le_of_ble_eq_true rfl) rfl ?_
  refine o_f_X6_append_h3 (fun  h9 => ?_) _ _ _ _ 
  show jv_O X M_X6_append _ jeV 49 [none, none, none] [] h9 _
  exact jv_vret (jv_dk t_X6_append (k := 26) rfl) rfl rfl
def t0_X6_sortAt : List (Nat × Instr × Nat) := [(0, .iload_n 1, 1), (1, .aload_n 0, 1), (2, .getfield 22, 3), (5, .if_icmp .lt 5, 3), (8, .iconst 0, 1), (9, .ireturn, 1), (10, .aload_n 0, 1), (11, .getfield 9, 3), (14, .iload_n 1, 1), (15, .iaload, 1), (16, .istore_n 2, 1), (17, .iload_n 2, 1), (18, .bipush 97, 2), (20, .if_icmp .lt 11, 3), (23, .iload_n 2, 1), (24, .bipush 122, 2), (26, .if_icmp .gt 5, 3), (29, .iconst 1, 1), (30, .ireturn, 1), (31, .iload_n 2, 1), (32, .bipush 48, 2), (34, .if_icmp .lt 11, 3), (37, .iload_n 2, 1), (38, .bipush 57, 2), (40, .if_icmp .gt 5, 3), (43, .iconst 2, 1), (44, .ireturn, 1), (45, .iload_n 2, 1), (46, .bipush 59, 2), (48, .if_icmp .ne 7, 3), (51, .iconst 3, 1), (52, .goto 4, 3), (55, .iconst 4, 1), (56, .ireturn, 1)]
theorem t_X6_sortAt : jv_dec cX6_sortAt t0_X6_sortAt = true := by decide +kernel
def M_X6_sortAt : jm := (yX6_sortAt, cX6_sortAt, 3, (some .int), 0, 0, [])
def f_X6_sortAt_b45 (x2 : Int32) (h : jh) : Option (Int32 × jh) :=
  (if ¬ x2 = 59 then
  some (4, h)
  else
  some (3, h))
theorem o_f_X6_sortAt_b45 {X : jx} {b0 : Nat × Nat} (x2 : Int32) (h : jh) : jv_O X M_X6_sortAt b0 jeI 45 [none, none, some (.int (x2))] [] h (f_X6_sortAt_b45 x2 h) := by
  unfold f_X6_sortAt_b45
  refine jv_iload_n (jv_dk t_X6_sortAt (k := 27) rfl) rfl rfl ?_
  refine jv_bipush (v := 59) (jv_dk t_X6_sortAt (k := 28) rfl) (by decide) ?_
  refine jv_icmp_ne (tgt := 55) (jv_dk t_X6_sortAt (k := 29) rfl) rfl (fun c7 => ?_) (fun c7 => ?_)
  · refine jv_iconst (v := 4) (jv_dk t_X6_sortAt (k := 32) rfl) (by decide) ?_
    exact jv_iret (ty := .int) (jv_dk t_X6_sortAt (k := 33) rfl) rfl rfl rfl
  · show jv_O _ _ _ _ 51 _ _ _ _
    refine jv_iconst (v := 3) (jv_dk t_X6_sortAt (k := 30) rfl) (by decide) ?_
    refine jv_goto (tgt := 56) (jv_dk t_X6_sortAt (k := 31) rfl) rfl ?_
    exact jv_iret (ty := .int) (jv_dk t_X6_sortAt (k := 33) rfl) rfl rfl rfl
def f_X6_sortAt_b31 (x2 : Int32) (h : jh) : Option (Int32 × jh) :=
  (if x2 < 48 then
  f_X6_sortAt_b45 x2 h
  else
  (if 57 < x2 then
  f_X6_sortAt_b45 x2 h
  else
  some (2, h)))
theorem o_f_X6_sortAt_b31 {X : jx} {b0 : Nat × Nat} (x2 : Int32) (h : jh) : jv_O X M_X6_sortAt b0 jeI 31 [none, none, some (.int (x2))] [] h (f_X6_sortAt_b31 x2 h) := by
  unfold f_X6_sortAt_b31
  refine jv_iload_n (jv_dk t_X6_sortAt (k := 19) rfl) rfl rfl ?_
  refine jv_bipush (v := 48) (jv_dk t_X6_sortAt (k := 20) rfl) (by decide) ?_
  refine jv_icmp_lt (tgt := 45) (jv_dk t_X6_sortAt (k := 21) rfl) rfl (fun c6 => ?_) (fun c6 => ?_)
  · exact o_f_X6_sortAt_b45 _ _ 
  · show jv_O _ _ _ _ 37 _ _ _ _
    refine jv_iload_n (jv_dk t_X6_sortAt (k := 22) rfl) rfl rfl ?_
    refine jv_bipush (v := 57) (jv_dk t_X6_sortAt (k := 23) rfl) (by decide) ?_
    refine jv_icmp_gt (tgt := 45) (jv_dk t_X6_sortAt (k := 24) rfl) rfl (fun c8 => ?_) (fun c8 => ?_)
    · exact o_f_X6_sortAt_b45 _ _ 
    · show jv_O _ _ _ _ 43 _ _ _ _
      refine jv_iconst (v := 2) (jv_dk t_X6_sortAt (k := 25) rfl) (by decide) ?_
      exact jv_iret (ty := .int) (jv_dk t_X6_sortAt (k := 26) rfl) rfl rfl rfl
def f_X6_sortAt (a0 : Nat) (a1 : Int32) (h : jh) : Option (Int32 × jh) :=
  gI h a0 4 3 fun v1 =>
  (if a1 < v1 then
  gR h a0 4 0 fun v3 =>
  aI h v3 a1 fun v4 =>
  (if v4 < 97 then
  f_X6_sortAt_b31 v4 h
  else
  (if 122 < v4 then
  f_X6_sortAt_b31 v4 h
  else
  some (1, h)))
  else
  some (0, h))
theorem P_X6_sortAt (X : jx) (a0 : Nat) (a1 : Int32) (h : jh) : jv_P X M_X6_sortAt jeI [.ref (a0), .int (a1)] h (f_X6_sortAt a0 a1 h) := by
  refine jv_P.of (by decide) rfl (by simp [Value.category]) (Nat.le_of_ble_eq_true rfl) ?_
  show jv_O X M_X6_sortAt (h.1, h.2.1) jeI 0 [some (.ref (a0)), some (.int (a1)), none] [] h (f_X6_sortAt a0 a1 h)
  unfold f_X6_sortAt
  refine jv_iload_n (jv_dk t_X6_sortAt (k := 0) rfl) rfl rfl ?_
  refine jv_aload_n (jv_dk t_X6_sortAt (k := 1) rfl) rfl rfl (Or.inr ⟨_, rfl⟩) ?_
  refine jv_gI (jv_dk t_X6_sortAt (k := 2) rfl) fl_X6_22 (fun v1 => ?_)
  refine jv_icmp_lt (tgt := 10) (jv_dk t_X6_sortAt (k := 3) rfl) rfl (fun c2 => ?_) (fun c2 => ?_)
  · refine jv_aload_n (jv_dk t_X6_sortAt (k := 6) rfl) rfl rfl (Or.inr ⟨_, rfl⟩) ?_
    refine jv_gR (jv_dk t_X6_sortAt (k := 7) rfl) fl_X6_9 (fun v3 => ?_)
    refine jv_iload_n (jv_dk t_X6_sortAt (k := 8) rfl) rfl rfl ?_
    refine jv_iaload (jv_dk t_X6_sortAt (k := 9) rfl) (fun v4 => ?_)
    refine jv_istore_n (L' := [some (.ref (a0)), some (.int (a1)), some (.int (v4))]) (jv_dk t_X6_sortAt (k := 10) rfl) rfl (Nat.le_of_ble_eq_true rfl) rfl ?_
    refine jv_iload_n (jv_dk t_X6_sortAt (k := 11) rfl) rfl rfl ?_
    refine jv_bipush (v := 97) (jv_dk t_X6_sortAt (k := 12) rfl) (by decide) ?_
    refine jv_icmp_lt (tgt := 31) (jv_dk t_X6_sortAt (k := 13) rfl) rfl (fun c5 => ?_) (fun c5 => ?_)
    · refine jv_le_row (jv_le_n (jv_le_n (jv_le_s (jv_le_nil)))) ?_
      exact o_f_X6_sortAt_b31 _ _ 
    · show jv_O _ _ _ _ 23 _ _ _ _
      refine jv_iload_n (jv_dk t_X6_sortAt (k := 14) rfl) rfl rfl ?_
      refine jv_bipush (v := 122) (jv_dk t_X6_sortAt (k := 15) rfl) (by decide) ?_
      refine jv_icmp_gt (tgt := 31) (jv_dk t_X6_sortAt (k := 16) rfl) rfl (fun c9 => ?_) (fun c9 => ?_)
      · refine jv_le_row (jv_le_n (jv_le_n (jv_le_s (jv_le_nil)))) ?_
        exact o_f_X6_sortAt_b31 _ _ 
      · show jv_O _ _ _ _ 29 _ _ _ _
        refine jv_iconst (v := 1) (jv_dk t_X6_sortAt (k := 17) rfl) (by decide) ?_
        exact jv_iret (ty := .int) (jv_dk t_X6_sortAt (k := 18) rfl) rfl rfl rfl
  · show jv_O _ _ _ _ 8 _ _ _ _
    refine jv_iconst (v := 0) (jv_dk t_X6_sortAt (k := 4) rfl) (by decide) ?_
    exact jv_iret (ty := .int) (jv_dk t_X6_sortAt (k := 5) rfl) rfl rfl rfl
def t0_X6_nextToken : List (Nat × Instr × Nat) := [(0, .aload_n 0, 1), (1, .aload_n 0, 1), (2, .getfield 31, 3), (5, .putfield 28, 3), (8, .aload_n 0, 1), (9, .getfield 28, 3), (12, .aload_n 0, 1), (13, .getfield 22, 3), (16, .if_icmp .ge 44, 3), (19, .aload_n 0, 1), (20, .getfield 9, 3), (23, .aload_n 0, 1), (24, .getfield 28, 3), (27, .iaload, 1), (28, .bipush 32, 2), (30, .if_icmp .eq 17, 3), (33, .aload_n 0, 1), (34, .getfield 9, 3), (37, .aload_n 0, 1), (38, .getfield 28, 3), (41, .iaload, 1), (42, .bipush 10, 2), (44, .if_icmp .ne 16, 3), (47, .aload_n 0, 1), (48, .dup, 1), (49, .getfield 28, 3), (52, .iconst 1, 1), (53, .iadd, 1), (54, .putfield 28, 3), (57, .goto (-49), 3), (60, .aload_n 0, 1), (61, .aload_n 0, 1), (62, .getfield 28, 3), (65, .putfield 31, 3), (68, .aload_n 0, 1), (69, .aload_n 0, 1), (70, .aload_n 0, 1), (71, .getfield 28, 3), (74, .invokevirtual 97, 3), (77, .putfield 25, 3), (80, .aload_n 0, 1), (81, .getfield 25, 3), (84, .iconst 3, 1), (85, .if_icmp .eq 11, 3), (88, .aload_n 0, 1), (89, .getfield 25, 3), (92, .iconst 4, 1), (93, .if_icmp .ne 14, 3), (96, .aload_n 0, 1), (97, .dup, 1), (98, .getfield 31, 3), (101, .iconst 1, 1), (102, .iadd, 1), (103, .putfield 31, 3), (106, .return_, 1), (107, .aload_n 0, 1), (108, .getfield 31, 3), (111, .aload_n 0, 1), (112, .getfield 22, 3), (115, .if_icmp .ge 31, 3), (118, .aload_n 0, 1), (119, .aload_n 0, 1), (120, .getfield 31, 3), (123, .invokevirtual 97, 3), (126, .aload_n 0, 1), (127, .getfield 25, 3), (130, .if_icmp .ne 16, 3), (133, .aload_n 0, 1), (134, .dup, 1), (135, .getfield 31, 3), (138, .iconst 1, 1), (139, .iadd, 1), (140, .putfield 31, 3), (143, .goto (-36), 3), (146, .return_, 1)]
theorem t_X6_nextToken : jv_dec cX6_nextToken t0_X6_nextToken = true := by decide +kernel
def M_X6_nextToken : jm := (yX6_nextToken, cX6_nextToken, 1, none, 1, 22, [])
theorem lk_X6_97 : Cond.methodLink RX6 97 M_X6_sortAt.1 ∈ lw_tbl := (jv_at 1017 (by decide +kernel))
set_option maxRecDepth 20000 in
theorem me_X6_sortAt : jv_me M_X6_sortAt 1 := ⟨(jv_in4 (List.mem_of_getElem? (i := 140) rfl)), (jv_at 171 (by decide +kernel)), ⟨by decide, by decide⟩, by decide +kernel⟩
theorem mv_X6_sortAt : jv_mv M_X6_sortAt := ⟨(jv_at 1019 (by decide +kernel)), (jv_at 70 (by decide +kernel))⟩
def f_X6_nextToken_b47 (R8 : Nat → jh → Option (Unit × jh)) (K8 : Nat → jh → Option (Unit × jh)) (x0 : Nat) (h : jh) : Option (Unit × jh) :=
  gI h x0 4 5 fun v10 =>
  pV h x0 4 5 (.int (v10 + 1)) fun h11 =>
  R8 x0 h11
theorem o_f_X6_nextToken_b47 {X : jx} {b0 : Nat × Nat} {R8 : Nat → jh → Option (Unit × jh)} {K8 : Nat → jh → Option (Unit × jh)} (hR8 : ∀ (x0 : Nat) (h : jh), jv_O X M_X6_nextToken b0 jeV 8 [some (.ref (x0))] [] h (R8 x0 h)) (hK8 : ∀ (x0 : Nat) (h : jh), jv_O X M_X6_nextToken b0 jeV 60 [some (.ref (x0))] [] h (K8 x0 h)) (x0 : Nat) (h : jh) : jv_O X M_X6_nextToken b0 jeV 47 [some (.ref (x0))] [] h (f_X6_nextToken_b47 R8 K8 x0 h) := by
  unfold f_X6_nextToken_b47
  refine jv_aload_n (jv_dk t_X6_nextToken (k := 23) rfl) rfl rfl (Or.inr ⟨_, rfl⟩) ?_
  refine jv_dup (jv_dk t_X6_nextToken (k := 24) rfl) rfl ?_
  refine jv_gI (jv_dk t_X6_nextToken (k := 25) rfl) fl_X6_28 (fun v10 => ?_)
  refine jv_iconst (v := 1) (jv_dk t_X6_nextToken (k := 26) rfl) (by decide) ?_
  refine jv_iadd (jv_dk t_X6_nextToken (k := 27) rfl) ?_
  refine jv_pV (jv_dk t_X6_nextToken (k := 28) rfl) fl_X6_28 kX6 (Or.inl rfl) rfl rfl rfl (fun h11 => ?_)
  refine jv_goto (tgt := 8) (jv_dk t_X6_nextToken (k := 29) rfl) rfl ?_
  exact hR8 _ _ 
def f_X6_nextToken_h8 (K8 : Nat → jh → Option (Unit × jh)) (R8 : Nat → jh → Option (Unit × jh)) (x0 : Nat) (h : jh) : Option (Unit × jh) :=
  gI h x0 4 5 fun v3 =>
  gI h x0 4 3 fun v4 =>
  (if v4 ≤ v3 then
  K8 x0 h
  else
  gR h x0 4 0 fun v6 =>
  gI h x0 4 5 fun v7 =>
  aI h v6 v7 fun v8 =>
  (if v8 = 32 then
  f_X6_nextToken_b47 R8 K8 x0 h
  else
  gR h x0 4 0 fun v12 =>
  gI h x0 4 5 fun v13 =>
  aI h v12 v13 fun v14 =>
  (if ¬ v14 = 10 then
  K8 x0 h
  else
  f_X6_nextToken_b47 R8 K8 x0 h)))
theorem o_f_X6_nextToken_h8 {X : jx} {b0 : Nat × Nat} {K8 : Nat → jh → Option (Unit × jh)} (hK8 : ∀ (x0 : Nat) (h : jh), jv_O X M_X6_nextToken b0 jeV 60 [some (.ref (x0))] [] h (K8 x0 h)) : ∀ (x0 : Nat) (h : jh), jv_O X M_X6_nextToken b0 jeV 8 [some (.ref (x0))] [] h (jlp1 (f_X6_nextToken_h8 K8) jfu x0 h) := by
  refine jlp1_ok (P := fun x0 h o => jv_O X M_X6_nextToken b0 jeV 8 [some (.ref (x0))] [] h o) (fun R8 hR8 => ?_) (fun _ _  => jv_none rfl) jfu
  intro x0 h
  unfold f_X6_nextToken_h8
  refine jv_aload_n (jv_dk t_X6_nextToken (k := 4) rfl) rfl rfl (Or.inr ⟨_, rfl⟩) ?_
  refine jv_gI (jv_dk t_X6_nextToken (k := 5) rfl) fl_X6_28 (fun v3 => ?_)
  refine jv_aload_n (jv_dk t_X6_nextToken (k := 6) rfl) rfl rfl (Or.inr ⟨_, rfl⟩) ?_
  refine jv_gI (jv_dk t_X6_nextToken (k := 7) rfl) fl_X6_22 (fun v4 => ?_)
  refine jv_icmp_ge (tgt := 60) (jv_dk t_X6_nextToken (k := 8) rfl) rfl (fun c5 => ?_) (fun c5 => ?_)
  · exact hK8 _ _ 
  · show jv_O _ _ _ _ 19 _ _ _ _
    refine jv_aload_n (jv_dk t_X6_nextToken (k := 9) rfl) rfl rfl (Or.inr ⟨_, rfl⟩) ?_
    refine jv_gR (jv_dk t_X6_nextToken (k := 10) rfl) fl_X6_9 (fun v6 => ?_)
    refine jv_aload_n (jv_dk t_X6_nextToken (k := 11) rfl) rfl rfl (Or.inr ⟨_, rfl⟩) ?_
    refine jv_gI (jv_dk t_X6_nextToken (k := 12) rfl) fl_X6_28 (fun v7 => ?_)
    refine jv_iaload (jv_dk t_X6_nextToken (k := 13) rfl) (fun v8 => ?_)
    refine jv_bipush (v := 32) (jv_dk t_X6_nextToken (k := 14) rfl) (by decide) ?_
    refine jv_icmp_eq (tgt := 47) (jv_dk t_X6_nextToken (k := 15) rfl) rfl (fun c9 => ?_) (fun c9 => ?_)
    · exact o_f_X6_nextToken_b47 hR8 hK8 _ _ 
    · show jv_O _ _ _ _ 33 _ _ _ _
      refine jv_aload_n (jv_dk t_X6_nextToken (k := 16) rfl) rfl rfl (Or.inr ⟨_, rfl⟩) ?_
      refine jv_gR (jv_dk t_X6_nextToken (k := 17) rfl) fl_X6_9 (fun v12 => ?_)
      refine jv_aload_n (jv_dk t_X6_nextToken (k := 18) rfl) rfl rfl (Or.inr ⟨_, rfl⟩) ?_
      refine jv_gI (jv_dk t_X6_nextToken (k := 19) rfl) fl_X6_28 (fun v13 => ?_)
      refine jv_iaload (jv_dk t_X6_nextToken (k := 20) rfl) (fun v14 => ?_)
      refine jv_bipush (v := 10) (jv_dk t_X6_nextToken (k := 21) rfl) (by decide) ?_
      refine jv_icmp_ne (tgt := 60) (jv_dk t_X6_nextToken (k := 22) rfl) rfl (fun c15 => ?_) (fun c15 => ?_)
      · exact hK8 _ _ 
      · show jv_O _ _ _ _ 47 _ _ _ _
        exact o_f_X6_nextToken_b47 hR8 hK8 _ _ 
def f_X6_nextToken_b96 (x0 : Nat) (h : jh) : Option (Unit × jh) :=
  gI h x0 4 6 fun v26 =>
  pV h x0 4 6 (.int (v26 + 1)) fun h27 =>
  some ((), h27)
theorem o_f_X6_nextToken_b96 {X : jx} {b0 : Nat × Nat} (x0 : Nat) (h : jh) : jv_O X M_X6_nextToken b0 jeV 96 [some (.ref (x0))] [] h (f_X6_nextToken_b96 x0 h) := by
  unfold f_X6_nextToken_b96
  refine jv_aload_n (jv_dk t_X6_nextToken (k := 48) rfl) rfl rfl (Or.inr ⟨_, rfl⟩) ?_
  refine jv_dup (jv_dk t_X6_nextToken (k := 49) rfl) rfl ?_
  refine jv_gI (jv_dk t_X6_nextToken (k := 50) rfl) fl_X6_31 (fun v26 => ?_)
  refine jv_iconst (v := 1) (jv_dk t_X6_nextToken (k := 51) rfl) (by decide) ?_
  refine jv_iadd (jv_dk t_X6_nextToken (k := 52) rfl) ?_
  refine jv_pV (jv_dk t_X6_nextToken (k := 53) rfl) fl_X6_31 kX6 (Or.inl rfl) rfl rfl rfl (fun h27 => ?_)
  exact jv_vret (jv_dk t_X6_nextToken (k := 54) rfl) rfl rfl
def f_X6_nextToken_h107 (K107 : jh → Option (Unit × jh)) (R107 : Nat → jh → Option (Unit × jh)) (x0 : Nat) (h : jh) : Option (Unit × jh) :=
  gI h x0 4 6 fun v30 =>
  gI h x0 4 3 fun v31 =>
  (if v31 ≤ v30 then
  K107  h
  else
  gI h x0 4 6 fun v33 =>
  cV h x0 4 (f_X6_sortAt x0 v33 h) fun v34 h35 =>
  gI h35 x0 4 4 fun v36 =>
  (if ¬ v34 = v36 then
  K107  h35
  else
  gI h35 x0 4 6 fun v38 =>
  pV h35 x0 4 6 (.int (v38 + 1)) fun h39 =>
  R107 x0 h39))
theorem o_f_X6_nextToken_h107 {X : jx} {b0 : Nat × Nat} {K107 : jh → Option (Unit × jh)} (hK107 : ∀  (h : jh), jv_O X M_X6_nextToken b0 jeV 146 [none] [] h (K107  h)) : ∀ (x0 : Nat) (h : jh), jv_O X M_X6_nextToken b0 jeV 107 [some (.ref (x0))] [] h (jlp1 (f_X6_nextToken_h107 K107) jfu x0 h) := by
  refine jlp1_ok (P := fun x0 h o => jv_O X M_X6_nextToken b0 jeV 107 [some (.ref (x0))] [] h o) (fun R107 hR107 => ?_) (fun _ _  => jv_none rfl) jfu
  intro x0 h
  unfold f_X6_nextToken_h107
  refine jv_aload_n (jv_dk t_X6_nextToken (k := 55) rfl) rfl rfl (Or.inr ⟨_, rfl⟩) ?_
  refine jv_gI (jv_dk t_X6_nextToken (k := 56) rfl) fl_X6_31 (fun v30 => ?_)
  refine jv_aload_n (jv_dk t_X6_nextToken (k := 57) rfl) rfl rfl (Or.inr ⟨_, rfl⟩) ?_
  refine jv_gI (jv_dk t_X6_nextToken (k := 58) rfl) fl_X6_22 (fun v31 => ?_)
  refine jv_icmp_ge (tgt := 146) (jv_dk t_X6_nextToken (k := 59) rfl) rfl (fun c32 => ?_) (fun c32 => ?_)
  · refine jv_le_row (jv_le_n (jv_le_nil)) ?_
    exact hK107 _ 
  · show jv_O _ _ _ _ 118 _ _ _ _
    refine jv_aload_n (jv_dk t_X6_nextToken (k := 60) rfl) rfl rfl (Or.inr ⟨_, rfl⟩) ?_
    refine jv_aload_n (jv_dk t_X6_nextToken (k := 61) rfl) rfl rfl (Or.inr ⟨_, rfl⟩) ?_
    refine jv_gI (jv_dk t_X6_nextToken (k := 62) rfl) fl_X6_31 (fun v33 => ?_)
    refine jv_callV (en' := jeI) (pv := jpI) (As := [.int (v33)]) (S := []) (jv_dk t_X6_nextToken (k := 63) rfl) (fun _ => rfl) (Or.inl lk_X6_97) me_X6_sortAt mv_X6_sortAt ⟨by decide, by decide⟩ rfl rfl rfl (Nat.le_of_ble_eq_true rfl) (P_X6_sortAt X x0 v33 h) (fun v34 h35 => ?_)
    show jv_O X M_X6_nextToken _ jeV 126 [some (.ref (x0))] [.int (v34)] h35 _
    refine jv_aload_n (jv_dk t_X6_nextToken (k := 64) rfl) rfl rfl (Or.inr ⟨_, rfl⟩) ?_
    refine jv_gI (jv_dk t_X6_nextToken (k := 65) rfl) fl_X6_25 (fun v36 => ?_)
    refine jv_icmp_ne (tgt := 146) (jv_dk t_X6_nextToken (k := 66) rfl) rfl (fun c37 => ?_) (fun c37 => ?_)
    · refine jv_le_row (jv_le_n (jv_le_nil)) ?_
      exact hK107 _ 
    · show jv_O _ _ _ _ 133 _ _ _ _
      refine jv_aload_n (jv_dk t_X6_nextToken (k := 67) rfl) rfl rfl (Or.inr ⟨_, rfl⟩) ?_
      refine jv_dup (jv_dk t_X6_nextToken (k := 68) rfl) rfl ?_
      refine jv_gI (jv_dk t_X6_nextToken (k := 69) rfl) fl_X6_31 (fun v38 => ?_)
      refine jv_iconst (v := 1) (jv_dk t_X6_nextToken (k := 70) rfl) (by decide) ?_
      refine jv_iadd (jv_dk t_X6_nextToken (k := 71) rfl) ?_
      refine jv_pV (jv_dk t_X6_nextToken (k := 72) rfl) fl_X6_31 kX6 (Or.inl rfl) rfl rfl rfl (fun h39 => ?_)
      refine jv_goto (tgt := 107) (jv_dk t_X6_nextToken (k := 73) rfl) rfl ?_
      exact hR107 _ _ 
def f_X6_nextToken_b60 (x0 : Nat) (h : jh) : Option (Unit × jh) :=
  gI h x0 4 5 fun v18 =>
  pV h x0 4 6 (.int (v18)) fun h19 =>
  gI h19 x0 4 5 fun v20 =>
  cV h19 x0 4 (f_X6_sortAt x0 v20 h19) fun v21 h22 =>
  pV h22 x0 4 4 (.int (v21)) fun h23 =>
  gI h23 x0 4 4 fun v24 =>
  (if v24 = 3 then
  f_X6_nextToken_b96 x0 h23
  else
  gI h23 x0 4 4 fun v28 =>
  (if ¬ v28 = 4 then
  jlp1 (f_X6_nextToken_h107 (fun  h40 =>
  some ((), h40))) jfu x0 h23
  else
  f_X6_nextToken_b96 x0 h23))
theorem o_f_X6_nextToken_b60 {X : jx} {b0 : Nat × Nat} (x0 : Nat) (h : jh) : jv_O X M_X6_nextToken b0 jeV 60 [some (.ref (x0))] [] h (f_X6_nextToken_b60 x0 h) := by
  unfold f_X6_nextToken_b60
  refine jv_aload_n (jv_dk t_X6_nextToken (k := 30) rfl) rfl rfl (Or.inr ⟨_, rfl⟩) ?_
  refine jv_aload_n (jv_dk t_X6_nextToken (k := 31) rfl) rfl rfl (Or.inr ⟨_, rfl⟩) ?_
  refine jv_gI (jv_dk t_X6_nextToken (k := 32) rfl) fl_X6_28 (fun v18 => ?_)
  refine jv_pV (jv_dk t_X6_nextToken (k := 33) rfl) fl_X6_31 kX6 (Or.inl rfl) rfl rfl rfl (fun h19 => ?_)
  refine jv_aload_n (jv_dk t_X6_nextToken (k := 34) rfl) rfl rfl (Or.inr ⟨_, rfl⟩) ?_
  refine jv_aload_n (jv_dk t_X6_nextToken (k := 35) rfl) rfl rfl (Or.inr ⟨_, rfl⟩) ?_
  refine jv_aload_n (jv_dk t_X6_nextToken (k := 36) rfl) rfl rfl (Or.inr ⟨_, rfl⟩) ?_
  refine jv_gI (jv_dk t_X6_nextToken (k := 37) rfl) fl_X6_28 (fun v20 => ?_)
  refine jv_callV (en' := jeI) (pv := jpI) (As := [.int (v20)]) (S := [.ref (x0)]) (jv_dk t_X6_nextToken (k := 38) rfl) (fun _ => rfl) (Or.inl lk_X6_97) me_X6_sortAt mv_X6_sortAt ⟨by decide, by decide⟩ rfl rfl rfl (Nat.le_of_ble_eq_true rfl) (P_X6_sortAt X x0 v20 h19) (fun v21 h22 => ?_)
  show jv_O X M_X6_nextToken _ jeV 77 [some (.ref (x0))] [.int (v21), .ref (x0)] h22 _
  refine jv_pV (jv_dk t_X6_nextToken (k := 39) rfl) fl_X6_25 kX6 (Or.inl rfl) rfl rfl rfl (fun h23 => ?_)
  refine jv_aload_n (jv_dk t_X6_nextToken (k := 40) rfl) rfl rfl (Or.inr ⟨_, rfl⟩) ?_
  refine jv_gI (jv_dk t_X6_nextToken (k := 41) rfl) fl_X6_25 (fun v24 => ?_)
  refine jv_iconst (v := 3) (jv_dk t_X6_nextToken (k := 42) rfl) (by decide) ?_
  refine jv_icmp_eq (tgt := 96) (jv_dk t_X6_nextToken (k := 43) rfl) rfl (fun c25 => ?_) (fun c25 => ?_)
  · exact o_f_X6_nextToken_b96 _ _ 
  · show jv_O _ _ _ _ 88 _ _ _ _
    refine jv_aload_n (jv_dk t_X6_nextToken (k := 44) rfl) rfl rfl (Or.inr ⟨_, rfl⟩) ?_
    refine jv_gI (jv_dk t_X6_nextToken (k := 45) rfl) fl_X6_25 (fun v28 => ?_)
    refine jv_iconst (v := 4) (jv_dk t_X6_nextToken (k := 46) rfl) (by decide) ?_
    refine jv_icmp_ne (tgt := 107) (jv_dk t_X6_nextToken (k := 47) rfl) rfl (fun c29 => ?_) (fun c29 => ?_)
    · refine o_f_X6_nextToken_h107 (fun  h40 => ?_) _ _ 
      show jv_O X M_X6_nextToken _ jeV 146 [none] [] h40 _
      exact jv_vret (jv_dk t_X6_nextToken (k := 74) rfl) rfl rfl
    · show jv_O _ _ _ _ 96 _ _ _ _
      exact o_f_X6_nextToken_b96 _ _ 
def f_X6_nextToken (a0 : Nat) (h : jh) : Option (Unit × jh) :=
  gI h a0 4 6 fun v1 =>
  pV h a0 4 5 (.int (v1)) fun h2 =>
  jlp1 (f_X6_nextToken_h8 (fun y17 h16 =>
  f_X6_nextToken_b60 y17 h16)) jfu a0 h2
theorem P_X6_nextToken (X : jx) (a0 : Nat) (h : jh) : jv_P X M_X6_nextToken jeV [.ref (a0)] h (f_X6_nextToken a0 h) := by
  refine jv_P.of (by decide) rfl (by simp [Value.category]) (Nat.le_of_ble_eq_true rfl) ?_
  show jv_O X M_X6_nextToken (h.1, h.2.1) jeV 0 [some (.ref (a0))] [] h (f_X6_nextToken a0 h)
  unfold f_X6_nextToken
  refine jv_aload_n (jv_dk t_X6_nextToken (k := 0) rfl) rfl rfl (Or.inr ⟨_, rfl⟩) ?_
  refine jv_aload_n (jv_dk t_X6_nextToken (k := 1) rfl) rfl rfl (Or.inr ⟨_, rfl⟩) ?_
  refine jv_gI (jv_dk t_X6_nextToken (k := 2) rfl) fl_X6_31 (fun v1 => ?_)
  refine jv_pV (jv_dk t_X6_nextToken (k := 3) rfl) fl_X6_28 kX6 (Or.inl rfl) rfl rfl rfl (fun h2 => ?_)
  refine o_f_X6_nextToken_h8 (fun y17 h16 => ?_) _ _ 
  show jv_O X M_X6_nextToken _ jeV 60 [some (.ref (y17))] [] h16 _
  exact o_f_X6_nextToken_b60 _ _ 
