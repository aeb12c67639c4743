def t0_X9_init : List (Nat × Instr × Nat) := [(0, .aload_n 0, 1), (1, .invokespecial 3, 3), (4, .aload_n 0, 1), (5, .bipush 8, 2), (7, .newarray .int, 2), (9, .putfield 9, 3), (12, .aload_n 0, 1), (13, .iconst 1, 1), (14, .putfield 15, 3), (17, .aload_n 0, 1), (18, .getfield 9, 3), (21, .iconst 0, 1), (22, .iconst (-1), 1), (23, .iastore, 1), (24, .return_, 1)]
theorem t_X9_init : jv_dec cX9_init t0_X9_init = true := by decide +kernel
def M_X9_init : jm := (yX9_init, cX9_init, 1, none, 1, 20, [])
theorem oi_X9_3 : Cond.methodLink RX9 3 Lib.objectInit ∈ lw_tbl := (jv_at 274 (by decide +kernel))
theorem ac_I : Cond.arrayClass .int ∈ lw_tbl := (jv_at 262 (by decide +kernel))
theorem fl_X9_9 : jv_F RX9 9 7 0 RX9 TX9 2 := ⟨rfl, by decide, inX9, Or.inl (jv_at 275 (by decide +kernel))⟩
theorem ff_X9_9 : Cond.fieldLink RX9 9 (TX9 0).1 (TX9 0).2.1 (TX9 0).2.2.1 ∈ lw_tbl := (jv_at 275 (by decide +kernel))
theorem fl_X9_15 : jv_F RX9 15 7 1 RX9 TX9 2 := ⟨rfl, by decide, inX9, Or.inl (jv_at 276 (by decide +kernel))⟩
def f_X9_init (a0 : Nat) (h : jh) : Option (Unit × jh) :=
  nI4 h 8 fun q1 h2 =>
  pV h2 a0 7 0 (.ref (q1)) fun h3 =>
  pV h3 a0 7 1 (.int (1)) fun h4 =>
  gR h4 a0 7 0 fun v5 =>
  sI h4 v5 0 (-1) fun h6 =>
  some ((), h6)
theorem P_X9_init (X : jx) (a0 : Nat) (h : jh) : jv_P X M_X9_init jeV [.ref (a0)] h (f_X9_init a0 h) := by
  refine jv_P.of (by decide) rfl (by simp [Value.category]) (Nat.le_of_ble_eq_true rfl) ?_
  show jv_O X M_X9_init (h.1, h.2.1) jeV 0 [some (.ref (a0))] [] h (f_X9_init a0 h)
  unfold f_X9_init
  refine jv_aload_n (jv_dk t_X9_init (k := 0) rfl) rfl rfl (Or.inr ⟨_, rfl⟩) ?_
  refine jv_obj (jv_dk t_X9_init (k := 1) rfl) oi_X9_3 oi_2 oi_3 (Nat.le_of_ble_eq_true rfl) ⟨by decide, by decide⟩ ?_
  refine jv_aload_n (jv_dk t_X9_init (k := 2) rfl) rfl rfl (Or.inr ⟨_, rfl⟩) ?_
  refine jv_bipush (v := 8) (jv_dk t_X9_init (k := 3) rfl) (by decide) ?_
  refine jv_newI (jv_dk t_X9_init (k := 4) rfl) ac_I (fun q1 h2 => ?_)
  refine jv_pV (jv_dk t_X9_init (k := 5) rfl) fl_X9_9 kX9 (Or.inr ⟨rfl, rfl, rfl, ff_X9_9⟩) rfl rfl rfl (fun h3 => ?_)
  refine jv_aload_n (jv_dk t_X9_init (k := 6) rfl) rfl rfl (Or.inr ⟨_, rfl⟩) ?_
  refine jv_iconst (v := 1) (jv_dk t_X9_init (k := 7) rfl) (by decide) ?_
  refine jv_pV (jv_dk t_X9_init (k := 8) rfl) fl_X9_15 kX9 (Or.inl rfl) rfl rfl rfl (fun h4 => ?_)
  refine jv_aload_n (jv_dk t_X9_init (k := 9) rfl) rfl rfl (Or.inr ⟨_, rfl⟩) ?_
  refine jv_gR (jv_dk t_X9_init (k := 10) rfl) fl_X9_9 (fun v5 => ?_)
  refine jv_iconst (v := 0) (jv_dk t_X9_init (k := 11) rfl) (by decide) ?_
  refine jv_iconst (v := (-1)) (jv_dk t_X9_init (k := 12) rfl) (by decide) ?_
  refine jv_iastore (jv_dk t_X9_init (k := 13) rfl) (fun h6 => ?_)
  exact jv_vret (jv_dk t_X9_init (k := 14) rfl) rfl rfl
def t0_X2_init : List (Nat × Instr × Nat) := [(0, .aload_n 0, 1), (1, .invokespecial 3, 3), (4, .aload_n 0, 1), (5, .new 9, 3), (8, .dup, 1), (9, .invokespecial 11, 3), (12, .putfield 12, 3), (15, .aload_n 0, 1), (16, .bipush 8, 2), (18, .newarray .int, 2), (20, .putfield 18, 3), (23, .aload_n 0, 1), (24, .bipush 64, 2), (26, .newarray .int, 2), (28, .putfield 22, 3), (31, .aload_n 0, 1), (32, .iconst 0, 1), (33, .putfield 25, 3), (36, .return_, 1)]
theorem t_X2_init : jv_dec cX2_init t0_X2_init = true := by decide +kernel
def M_X2_init : jm := (yX2_init, cX2_init, 1, none, 2, 40, [])
theorem oi_X2_3 : Cond.methodLink RX2 3 Lib.objectInit ∈ lw_tbl := (jv_at 343 (by decide +kernel))
theorem ck_X2_9 : Cond.classLink RX2 9 RX9 ∈ lw_tbl := (jv_at 344 (by decide +kernel))
theorem ib_X9 : Cond.instantiable RX9 2 ∈ lw_tbl := (jv_at 270 (by decide +kernel))
theorem iz_X9 : Cond.initialized RX9 ∈ lw_tbl := (jv_at 166 (by decide +kernel))
theorem df_X9 : ∀ j, j < 2 → defaultValue (tyX9 j) = vp_V [.null, .int 0] j := by decide +kernel
theorem lk_X2_11 : jv_lk RX2 11 M_X9_init := Or.inr ⟨"SpaceWarden", (jv_at 345 (by decide +kernel))⟩
set_option maxRecDepth 20000 in
theorem me_X9_init : jv_me M_X9_init 0 := ⟨(jv_in1 (List.mem_of_getElem? (i := 113) rfl)), (jv_at 166 (by decide +kernel)), ⟨by decide, by decide⟩, by decide +kernel⟩
theorem fl_X2_12 : jv_F RX2 12 0 0 RX2 TX2 4 := ⟨rfl, by decide, inX2, Or.inl (jv_at 346 (by decide +kernel))⟩
theorem ff_X2_12 : Cond.fieldLink RX2 12 (TX2 0).1 (TX2 0).2.1 (TX2 0).2.2.1 ∈ lw_tbl := (jv_at 346 (by decide +kernel))
theorem fl_X2_18 : jv_F RX2 18 0 1 RX2 TX2 4 := ⟨rfl, by decide, inX2, Or.inl (jv_at 349 (by decide +kernel))⟩
theorem ff_X2_18 : Cond.fieldLink RX2 18 (TX2 1).1 (TX2 1).2.1 (TX2 1).2.2.1 ∈ lw_tbl := (jv_at 349 (by decide +kernel))
theorem fl_X2_22 : jv_F RX2 22 0 2 RX2 TX2 4 := ⟨rfl, by decide, inX2, Or.inl (jv_at 352 (by decide +kernel))⟩
theorem ff_X2_22 : Cond.fieldLink RX2 22 (TX2 2).1 (TX2 2).2.1 (TX2 2).2.2.1 ∈ lw_tbl := (jv_at 352 (by decide +kernel))
theorem fl_X2_25 : jv_F RX2 25 0 3 RX2 TX2 4 := ⟨rfl, by decide, inX2, Or.inl (jv_at 355 (by decide +kernel))⟩
theorem mi_X9_init : jv_mi M_X9_init := (jv_at 272 (by decide +kernel))
def f_X2_init (a0 : Nat) (h : jh) : Option (Unit × jh) :=
  nO h 7 2 [.null, .int 0] fun q1 h2 =>
  bd (f_X9_init q1 h2) fun _ h3 =>
  pV h3 a0 0 0 (.ref (q1)) fun h4 =>
  nI4 h4 8 fun q5 h6 =>
  pV h6 a0 0 1 (.ref (q5)) fun h7 =>
  nI4 h7 64 fun q8 h9 =>
  pV h9 a0 0 2 (.ref (q8)) fun h10 =>
  pV h10 a0 0 3 (.int (0)) fun h11 =>
  some ((), h11)
theorem P_X2_init (X : jx) (a0 : Nat) (h : jh) : jv_P X M_X2_init jeV [.ref (a0)] h (f_X2_init a0 h) := by
  refine jv_P.of (by decide) rfl (by simp [Value.category]) (Nat.le_of_ble_eq_true rfl) ?_
  show jv_O X M_X2_init (h.1, h.2.1) jeV 0 [some (.ref (a0))] [] h (f_X2_init a0 h)
  unfold f_X2_init
  refine jv_aload_n (jv_dk t_X2_init (k := 0) rfl) rfl rfl (Or.inr ⟨_, rfl⟩) ?_
  refine jv_obj (jv_dk t_X2_init (k := 1) rfl) oi_X2_3 oi_2 oi_3 (Nat.le_of_ble_eq_true rfl) ⟨by decide, by decide⟩ ?_
  refine jv_aload_n (jv_dk t_X2_init (k := 2) rfl) rfl rfl (Or.inr ⟨_, rfl⟩) ?_
  refine jv_new (jv_dk t_X2_init (k := 3) rfl) kX9 ck_X2_9 ib_X9 iz_X9 df_X9 (fun q1 h2 => ?_)
  refine jv_dup (jv_dk t_X2_init (k := 4) rfl) rfl ?_
  refine jv_callI (en' := jeV) (pv := jpV) (As := []) (S := [.ref (q1), .ref (a0)]) (jv_dk t_X2_init (k := 5) rfl) (fun _ => rfl) lk_X2_11 me_X9_init mi_X9_init rfl rfl ⟨by decide, by decide⟩ rfl rfl (Nat.le_of_ble_eq_true rfl) (P_X9_init X q1 h2) (fun _ h3 => ?_)
  show jv_O X M_X2_init _ jeV 12 [some (.ref (a0))] [.ref (q1), .ref (a0)] h3 _
  refine jv_pV (jv_dk t_X2_init (k := 6) rfl) fl_X2_12 kX2 (Or.inr ⟨rfl, rfl, rfl, ff_X2_12⟩) rfl rfl rfl (fun h4 => ?_)
  refine jv_aload_n (jv_dk t_X2_init (k := 7) rfl) rfl rfl (Or.inr ⟨_, rfl⟩) ?_
  refine jv_bipush (v := 8) (jv_dk t_X2_init (k := 8) rfl) (by decide) ?_
  refine jv_newI (jv_dk t_X2_init (k := 9) rfl) ac_I (fun q5 h6 => ?_)
  refine jv_pV (jv_dk t_X2_init (k := 10) rfl) fl_X2_18 kX2 (Or.inr ⟨rfl, rfl, rfl, ff_X2_18⟩) rfl rfl rfl (fun h7 => ?_)
  refine jv_aload_n (jv_dk t_X2_init (k := 11) rfl) rfl rfl (Or.inr ⟨_, rfl⟩) ?_
  refine jv_bipush (v := 64) (jv_dk t_X2_init (k := 12) rfl) (by decide) ?_
  refine jv_newI (jv_dk t_X2_init (k := 13) rfl) ac_I (fun q8 h9 => ?_)
  refine jv_pV (jv_dk t_X2_init (k := 14) rfl) fl_X2_22 kX2 (Or.inr ⟨rfl, rfl, rfl, ff_X2_22⟩) rfl rfl rfl (fun h10 => ?_)
  refine jv_aload_n (jv_dk t_X2_init (k := 15) rfl) rfl rfl (Or.inr ⟨_, rfl⟩) ?_
  refine jv_iconst (v := 0) (jv_dk t_X2_init (k := 16) rfl) (by decide) ?_
  refine jv_pV (jv_dk t_X2_init (k := 17) rfl) fl_X2_25 kX2 (Or.inl rfl) rfl rfl rfl (fun h11 => ?_)
  exact jv_vret (jv_dk t_X2_init (k := 18) rfl) rfl rfl
def t0_X12_copyRow : List (Nat × Instr × Nat) := [(0, .aload_n 0, 1), (1, .iconst 0, 1), (2, .aload_n 1, 1), (3, .iconst 0, 1), (4, .aload_n 0, 1), (5, .arraylength, 1), (6, .aload_n 1, 1), (7, .arraylength, 1), (8, .invokestatic 381, 3), (11, .invokestatic 386, 3), (14, .return_, 1)]
theorem t_X12_copyRow : jv_dec cX12_copyRow t0_X12_copyRow = true := by decide +kernel
def M_X12_copyRow : jm := (yX12_copyRow, cX12_copyRow, 2, none, 1, 40, [])
theorem mt_X12_381 : Cond.methodLink RX12 381 Lib.Math.min.name ∈ lw_tbl := (jv_at 555 (by decide +kernel))
theorem sy_X12_386 : Cond.methodLink RX12 386 arraycopyName ∈ lw_tbl := (jv_at 558 (by decide +kernel))
def f_X12_copyRow (a0 : Nat) (a1 : Nat) (h : jh) : Option (Unit × jh) :=
  lnI h a0 fun v1 =>
  lnI h a1 fun v2 =>
  lt1 (if v2 < v1 then v2 else v1) fun v3 =>
  cpI h a0 0 a1 0 v3 fun h4 =>
  some ((), h4)
theorem P_X12_copyRow (X : jx) (a0 : Nat) (a1 : Nat) (h : jh) : jv_P X M_X12_copyRow jeV [.ref (a0), .ref (a1)] h (f_X12_copyRow a0 a1 h) := by
  refine jv_P.of (by decide) rfl (by simp [Value.category]) (Nat.le_of_ble_eq_true rfl) ?_
  show jv_O X M_X12_copyRow (h.1, h.2.1) jeV 0 [some (.ref (a0)), some (.ref (a1))] [] h (f_X12_copyRow a0 a1 h)
  unfold f_X12_copyRow
  refine jv_aload_n (jv_dk t_X12_copyRow (k := 0) rfl) rfl rfl (Or.inr ⟨_, rfl⟩) ?_
  refine jv_iconst (v := 0) (jv_dk t_X12_copyRow (k := 1) rfl) (by decide) ?_
  refine jv_aload_n (jv_dk t_X12_copyRow (k := 2) rfl) rfl rfl (Or.inr ⟨_, rfl⟩) ?_
  refine jv_iconst (v := 0) (jv_dk t_X12_copyRow (k := 3) rfl) (by decide) ?_
  refine jv_aload_n (jv_dk t_X12_copyRow (k := 4) rfl) rfl rfl (Or.inr ⟨_, rfl⟩) ?_
  refine jv_lnI (jv_dk t_X12_copyRow (k := 5) rfl) (fun v1 => ?_)
  refine jv_aload_n (jv_dk t_X12_copyRow (k := 6) rfl) rfl rfl (Or.inr ⟨_, rfl⟩) ?_
  refine jv_lnI (jv_dk t_X12_copyRow (k := 7) rfl) (fun v2 => ?_)
  refine jv_lt1 (fun v3 e_v3 => ?_)
  refine jv_mmin (jv_dk t_X12_copyRow (k := 8) rfl) mt_X12_381 (Nat.le_of_ble_eq_true rfl) ⟨by decide, by decide⟩ ?_
  rw [← e_v3]
  refine jv_arraycopy (jv_dk t_X12_copyRow (k := 9) rfl) sy_X12_386 sy_2 sy_3 sy_4 (Nat.le_of_ble_eq_true rfl) ⟨by decide, by decide⟩ (fun h4 => ?_)
  exact jv_vret (jv_dk t_X12_copyRow (k := 10) rfl) rfl rfl
def t0_X9_copy : List (Nat × Instr × Nat) := [(0, .aload_n 1, 1), (1, .getfield 9, 3), (4, .aload_n 0, 1), (5, .getfield 9, 3), (8, .invokestatic 19, 3), (11, .aload_n 0, 1), (12, .aload_n 1, 1), (13, .getfield 15, 3), (16, .putfield 15, 3), (19, .return_, 1)]
theorem t_X9_copy : jv_dec cX9_copy t0_X9_copy = true := by decide +kernel
def M_X9_copy : jm := (yX9_copy, cX9_copy, 2, none, 2, 61, [])
theorem lk_X9_19 : jv_lk RX9 19 M_X12_copyRow := Or.inr ⟨"SpaceWarden", (jv_at 569 (by decide +kernel))⟩
set_option maxRecDepth 20000 in
theorem me_X12_copyRow : jv_me M_X12_copyRow 2 := ⟨(jv_in2 (List.mem_of_getElem? (i := 154) rfl)), (jv_at 161 (by decide +kernel)), ⟨by decide, by decide⟩, by decide +kernel⟩
theorem ms_X12_copyRow : jv_ms M_X12_copyRow := (jv_at 553 (by decide +kernel))
def f_X9_copy (a0 : Nat) (a1 : Nat) (h : jh) : Option (Unit × jh) :=
  gR h a1 7 0 fun v1 =>
  gR h a0 7 0 fun v2 =>
  bd (f_X12_copyRow v1 v2 h) fun _ h3 =>
  gI h3 a1 7 1 fun v4 =>
  pV h3 a0 7 1 (.int (v4)) fun h5 =>
  some ((), h5)
theorem P_X9_copy (X : jx) (a0 : Nat) (a1 : Nat) (h : jh) : jv_P X M_X9_copy jeV [.ref (a0), .ref (a1)] h (f_X9_copy a0 a1 h) := by
  refine jv_P.of (by decide) rfl (by simp [Value.category]) (Nat.le_of_ble_eq_true rfl) ?_
  show jv_O X M_X9_copy (h.1, h.2.1) jeV 0 [some (.ref (a0)), some (.ref (a1))] [] h (f_X9_copy a0 a1 h)
  unfold f_X9_copy
  refine jv_aload_n (jv_dk t_X9_copy (k := 0) rfl) rfl rfl (Or.inr ⟨_, rfl⟩) ?_
  refine jv_gR (jv_dk t_X9_copy (k := 1) rfl) fl_X9_9 (fun v1 => ?_)
  refine jv_aload_n (jv_dk t_X9_copy (k := 2) rfl) rfl rfl (Or.inr ⟨_, rfl⟩) ?_
  refine jv_gR (jv_dk t_X9_copy (k := 3) rfl) fl_X9_9 (fun v2 => ?_)
  refine jv_callS (en' := jeV) (pv := jpV) (As := [.ref (v1), .ref (v2)]) (S := []) (jv_dk t_X9_copy (k := 4) rfl) (fun _ => rfl) lk_X9_19 me_X12_copyRow ms_X12_copyRow ⟨by decide, by decide⟩ rfl rfl (Nat.le_of_ble_eq_true rfl) (P_X12_copyRow X v1 v2 h) (fun _ h3 => ?_)
  show jv_O X M_X9_copy _ jeV 11 [some (.ref (a0)), some (.ref (a1))] [] h3 _
  refine jv_aload_n (jv_dk t_X9_copy (k := 5) rfl) rfl rfl (Or.inr ⟨_, rfl⟩) ?_
  refine jv_aload_n (jv_dk t_X9_copy (k := 6) rfl) rfl rfl (Or.inr ⟨_, rfl⟩) ?_
  refine jv_gI (jv_dk t_X9_copy (k := 7) rfl) fl_X9_15 (fun v4 => ?_)
  refine jv_pV (jv_dk t_X9_copy (k := 8) rfl) fl_X9_15 kX9 (Or.inl rfl) rfl rfl rfl (fun h5 => ?_)
  exact jv_vret (jv_dk t_X9_copy (k := 9) rfl) rfl rfl
def t0_X2_copy : List (Nat × Instr × Nat) := [(0, .aload_n 0, 1), (1, .getfield 12, 3), (4, .aload_n 1, 1), (5, .getfield 12, 3), (8, .invokevirtual 29, 3), (11, .aload_n 1, 1), (12, .getfield 18, 3), (15, .aload_n 0, 1), (16, .getfield 18, 3), (19, .invokestatic 33, 3), (22, .aload_n 1, 1), (23, .getfield 22, 3), (26, .aload_n 0, 1), (27, .getfield 22, 3), (30, .invokestatic 33, 3), (33, .aload_n 0, 1), (34, .aload_n 1, 1), (35, .getfield 25, 3), (38, .putfield 25, 3), (41, .return_, 1)]
theorem t_X2_copy : jv_dec cX2_copy t0_X2_copy = true := by decide +kernel
def M_X2_copy : jm := (yX2_copy, cX2_copy, 2, none, 3, 82, [])
theorem lk_X2_29 : jv_lk RX2 29 M_X9_copy := Or.inr ⟨"SpaceWarden", (jv_at 581 (by decide +kernel))⟩
set_option maxRecDepth 20000 in
theorem me_X9_copy : jv_me M_X9_copy 1 := ⟨(jv_in2 (List.mem_of_getElem? (i := 168) rfl)), (jv_at 166 (by decide +kernel)), ⟨by decide, by decide⟩, by decide +kernel⟩
theorem lk_X2_33 : jv_lk RX2 33 M_X12_copyRow := Or.inr ⟨"SpaceWarden", (jv_at 582 (by decide +kernel))⟩
theorem mv_X9_copy : jv_mv M_X9_copy := ⟨(jv_at 567 (by decide +kernel)), (jv_at 7 (by decide +kernel))⟩
def f_X2_copy (a0 : Nat) (a1 : Nat) (h : jh) : Option (Unit × jh) :=
  gR h a0 0 0 fun v1 =>
  gR h a1 0 0 fun v2 =>
  cV h v1 7 (f_X9_copy v1 v2 h) fun _ h3 =>
  gR h3 a1 0 1 fun v4 =>
  gR h3 a0 0 1 fun v5 =>
  bd (f_X12_copyRow v4 v5 h3) fun _ h6 =>
  gR h6 a1 0 2 fun v7 =>
  gR h6 a0 0 2 fun v8 =>
  bd (f_X12_copyRow v7 v8 h6) fun _ h9 =>
  gI h9 a1 0 3 fun v10 =>
  pV h9 a0 0 3 (.int (v10)) fun h11 =>
  some ((), h11)
theorem P_X2_copy (X : jx) (a0 : Nat) (a1 : Nat) (h : jh) : jv_P X M_X2_copy jeV [.ref (a0), .ref (a1)] h (f_X2_copy a0 a1 h) := by
  refine jv_P.of (by decide) rfl (by simp [Value.category]) (Nat.le_of_ble_eq_true rfl) ?_
  show jv_O X M_X2_copy (h.1, h.2.1) jeV 0 [some (.ref (a0)), some (.ref (a1))] [] h (f_X2_copy a0 a1 h)
  unfold f_X2_copy
  refine jv_aload_n (jv_dk t_X2_copy (k := 0) rfl) rfl rfl (Or.inr ⟨_, rfl⟩) ?_
  refine jv_gR (jv_dk t_X2_copy (k := 1) rfl) fl_X2_12 (fun v1 => ?_)
  refine jv_aload_n (jv_dk t_X2_copy (k := 2) rfl) rfl rfl (Or.inr ⟨_, rfl⟩) ?_
  refine jv_gR (jv_dk t_X2_copy (k := 3) rfl) fl_X2_12 (fun v2 => ?_)
  refine jv_callV (en' := jeV) (pv := jpV) (As := [.ref (v2)]) (S := []) (jv_dk t_X2_copy (k := 4) rfl) (fun _ => rfl) lk_X2_29 me_X9_copy mv_X9_copy ⟨by decide, by decide⟩ rfl rfl rfl (Nat.le_of_ble_eq_true rfl) (P_X9_copy X v1 v2 h) (fun _ h3 => ?_)
  show jv_O X M_X2_copy _ jeV 11 [some (.ref (a0)), some (.ref (a1))] [] h3 _
  refine jv_aload_n (jv_dk t_X2_copy (k := 5) rfl) rfl rfl (Or.inr ⟨_, rfl⟩) ?_
  refine jv_gR (jv_dk t_X2_copy (k := 6) rfl) fl_X2_18 (fun v4 => ?_)
  refine jv_aload_n (jv_dk t_X2_copy (k := 7) rfl) rfl rfl (Or.inr ⟨_, rfl⟩) ?_
  refine jv_gR (jv_dk t_X2_copy (k := 8) rfl) fl_X2_18 (fun v5 => ?_)
  refine jv_callS (en' := jeV) (pv := jpV) (As := [.ref (v4), .ref (v5)]) (S := []) (jv_dk t_X2_copy (k := 9) rfl) (fun _ => rfl) lk_X2_33 me_X12_copyRow ms_X12_copyRow ⟨by decide, by decide⟩ rfl rfl (Nat.le_of_ble_eq_true rfl) (P_X12_copyRow X v4 v5 h3) (fun _ h6 => ?_)
  show jv_O X M_X2_copy _ jeV 22 [some (.ref (a0)), some (.ref (a1))] [] h6 _
  refine jv_aload_n (jv_dk t_X2_copy (k := 10) rfl) rfl rfl (Or.inr ⟨_, rfl⟩) ?_
  refine jv_gR (jv_dk t_X2_copy (k := 11) rfl) fl_X2_22 (fun v7 => ?_)
  refine jv_aload_n (jv_dk t_X2_copy (k := 12) rfl) rfl rfl (Or.inr ⟨_, rfl⟩) ?_
  refine jv_gR (jv_dk t_X2_copy (k := 13) rfl) fl_X2_22 (fun v8 => ?_)
  refine jv_callS (en' := jeV) (pv := jpV) (As := [.ref (v7), .ref (v8)]) (S := []) (jv_dk t_X2_copy (k := 14) rfl) (fun _ => rfl) lk_X2_33 me_X12_copyRow ms_X12_copyRow ⟨by decide, by decide⟩ rfl rfl (Nat.le_of_ble_eq_true rfl) (P_X12_copyRow X v7 v8 h6) (fun _ h9 => ?_)
  show jv_O X M_X2_copy _ jeV 33 [some (.ref (a0)), some (.ref (a1))] [] h9 _
  refine jv_aload_n (jv_dk t_X2_copy (k := 15) rfl) rfl rfl (Or.inr ⟨_, rfl⟩) ?_
  refine jv_aload_n (jv_dk t_X2_copy (k := 16) rfl) rfl rfl (Or.inr ⟨_, rfl⟩) ?_
  refine jv_gI (jv_dk t_X2_copy (k := 17) rfl) fl_X2_25 (fun v10 => ?_)
  refine jv_pV (jv_dk t_X2_copy (k := 18) rfl) fl_X2_25 kX2 (Or.inl rfl) rfl rfl rfl (fun h11 => ?_)
  exact jv_vret (jv_dk t_X2_copy (k := 19) rfl) rfl rfl
def t0_X12_holds : List (Nat × Instr × Nat) := [(0, .iload_n 0, 1), (1, .iload_n 1, 1), (2, .iushr, 1), (3, .iconst 1, 1), (4, .iand, 1), (5, .ifCond .eq 7, 3), (8, .iconst 1, 1), (9, .goto 4, 3), (12, .iconst 0, 1), (13, .ireturn, 1)]
theorem t_X12_holds : jv_dec cX12_holds t0_X12_holds = true := by decide +kernel
def M_X12_holds : jm := (yX12_holds, cX12_holds, 2, (some .boolean), 0, 0, [])
def f_X12_holds (a0 : Int32) (a1 : Int32) (h : jh) : Option (Int32 × jh) :=
  (if (((a0.toUInt32 >>> (a1.toUInt32 &&& Int32.toUInt32 31)).toInt32) &&& 1) = 0 then
  some (0, h)
  else
  some (1, h))
theorem P_X12_holds (X : jx) (a0 : Int32) (a1 : Int32) (h : jh) : jv_P X M_X12_holds jeI [.int (a0), .int (a1)] h (f_X12_holds a0 a1 h) := by
  refine jv_P.of (by decide) rfl (by simp [Value.category]) (Nat.le_of_ble_eq_true rfl) ?_
  show jv_O X M_X12_holds (h.1, h.2.1) jeI 0 [some (.int (a0)), some (.int (a1))] [] h (f_X12_holds a0 a1 h)
  unfold f_X12_holds
  refine jv_iload_n (jv_dk t_X12_holds (k := 0) rfl) rfl rfl ?_
  refine jv_iload_n (jv_dk t_X12_holds (k := 1) rfl) rfl rfl ?_
  refine jv_iushr (jv_dk t_X12_holds (k := 2) rfl) ?_
  refine jv_iconst (v := 1) (jv_dk t_X12_holds (k := 3) rfl) (by decide) ?_
  refine jv_iand (jv_dk t_X12_holds (k := 4) rfl) ?_
  refine jv_if_eq (tgt := 12) (jv_dk t_X12_holds (k := 5) rfl) rfl (fun c1 => ?_) (fun c1 => ?_)
  · refine jv_iconst (v := 0) (jv_dk t_X12_holds (k := 8) rfl) (by decide) ?_
    exact jv_iret (ty := .boolean) (jv_dk t_X12_holds (k := 9) rfl) rfl rfl rfl
  · show jv_O _ _ _ _ 8 _ _ _ _
    refine jv_iconst (v := 1) (jv_dk t_X12_holds (k := 6) rfl) (by decide) ?_
    refine jv_goto (tgt := 13) (jv_dk t_X12_holds (k := 7) rfl) rfl ?_
    exact jv_iret (ty := .boolean) (jv_dk t_X12_holds (k := 9) rfl) rfl rfl rfl
def t0_X2_isShared : List (Nat × Instr × Nat) := [(0, .aload_n 0, 1), (1, .getfield 25, 3), (4, .iload_n 1, 1), (5, .invokestatic 37, 3), (8, .ireturn, 1)]
theorem t_X2_isShared : jv_dec cX2_isShared t0_X2_isShared = true := by decide +kernel
def M_X2_isShared : jm := (yX2_isShared, cX2_isShared, 2, (some .boolean), 1, 21, [])
theorem lk_X2_37 : jv_lk RX2 37 M_X12_holds := Or.inr ⟨"SpaceWarden", (jv_at 758 (by decide +kernel))⟩
set_option maxRecDepth 20000 in
theorem me_X12_holds : jv_me M_X12_holds 2 := ⟨(jv_in2 (List.mem_of_getElem? (i := 193) rfl)), (jv_at 161 (by decide +kernel)), ⟨by decide, by decide⟩, by decide +kernel⟩
theorem ms_X12_holds : jv_ms M_X12_holds := (jv_at 592 (by decide +kernel))
def f_X2_isShared (a0 : Nat) (a1 : Int32) (h : jh) : Option (Int32 × jh) :=
  gI h a0 0 3 fun v1 =>
  bd (f_X12_holds v1 a1 h) fun v2 h3 =>
  jz v2 h3
theorem P_X2_isShared (X : jx) (a0 : Nat) (a1 : Int32) (h : jh) : jv_P X M_X2_isShared jeI [.ref (a0), .int (a1)] h (f_X2_isShared a0 a1 h) := by
  refine jv_P.of (by decide) rfl (by simp [Value.category]) (Nat.le_of_ble_eq_true rfl) ?_
  show jv_O X M_X2_isShared (h.1, h.2.1) jeI 0 [some (.ref (a0)), some (.int (a1))] [] h (f_X2_isShared a0 a1 h)
  unfold f_X2_isShared
  refine jv_aload_n (jv_dk t_X2_isShared (k := 0) rfl) rfl rfl (Or.inr ⟨_, rfl⟩) ?_
  refine jv_gI (jv_dk t_X2_isShared (k := 1) rfl) fl_X2_25 (fun v1 => ?_)
  refine jv_iload_n (jv_dk t_X2_isShared (k := 2) rfl) rfl rfl ?_
  refine jv_callS (en' := jeI) (pv := jpI) (As := [.int (v1), .int (a1)]) (S := []) (jv_dk t_X2_isShared (k := 3) rfl) (fun _ => rfl) lk_X2_37 me_X12_holds ms_X12_holds ⟨by decide, by decide⟩ rfl rfl (Nat.le_of_ble_eq_true rfl) (P_X12_holds X v1 a1 h) (fun v2 h3 => ?_)
  show jv_O X M_X2_isShared _ jeI 8 [some (.ref (a0)), some (.int (a1))] [.int (v2)] h3 _
  unfold jz
  by_cases c4 : v2 &&& 1 = v2
  · rw [if_pos c4]; exact jv_iret (ty := .boolean) (jv_dk t_X2_isShared (k := 4) rfl) rfl (jv_nb c4) rfl
  · rw [if_neg c4]; exact jv_none rfl
def t0_X9_around : List (Nat × Instr × Nat) := [(0, .iload_n 1, 1), (1, .ifCond .lt 26, 3), (4, .iload_n 1, 1), (5, .aload_n 0, 1), (6, .getfield 15, 3), (9, .if_icmp .ge 18, 3), (12, .iload_n 1, 1), (13, .bipush 8, 2), (15, .if_icmp .ge 12, 3), (18, .aload_n 0, 1), (19, .getfield 9, 3), (22, .iload_n 1, 1), (23, .iaload, 1), (24, .goto 4, 3), (27, .iconst (-1), 1), (28, .ireturn, 1)]
theorem t_X9_around : jv_dec cX9_around t0_X9_around = true := by decide +kernel
def M_X9_around : jm := (yX9_around, cX9_around, 2, (some .int), 0, 0, [])
def f_X9_around (a0 : Nat) (a1 : Int32) (h : jh) : Option (Int32 × jh) :=
  (if a1 < 0 then
  some ((-1), h)
  else
  gI h a0 7 1 fun v2 =>
  (if v2 ≤ a1 then
  some ((-1), h)
  else
  (if 8 ≤ a1 then
  some ((-1), h)
  else
  gR h a0 7 0 fun v5 =>
  aI h v5 a1 fun v6 =>
  some (v6, h))))
theorem P_X9_around (X : jx) (a0 : Nat) (a1 : Int32) (h : jh) : jv_P X M_X9_around jeI [.ref (a0), .int (a1)] h (f_X9_around a0 a1 h) := by
  refine jv_P.of (by decide) rfl (by simp [Value.category]) (Nat.le_of_ble_eq_true rfl) ?_
  show jv_O X M_X9_around (h.1, h.2.1) jeI 0 [some (.ref (a0)), some (.int (a1))] [] h (f_X9_around a0 a1 h)
  unfold f_X9_around
  refine jv_iload_n (jv_dk t_X9_around (k := 0) rfl) rfl rfl ?_
  refine jv_if_lt (tgt := 27) (jv_dk t_X9_around (k := 1) rfl) rfl (fun c1 => ?_) (fun c1 => ?_)
  · refine jv_iconst (v := (-1)) (jv_dk t_X9_around (k := 14) rfl) (by decide) ?_
    exact jv_iret (ty := .int) (jv_dk t_X9_around (k := 15) rfl) rfl rfl rfl
  · show jv_O _ _ _ _ 4 _ _ _ _
    refine jv_iload_n (jv_dk t_X9_around (k := 2) rfl) rfl rfl ?_
    refine jv_aload_n (jv_dk t_X9_around (k := 3) rfl) rfl rfl (Or.inr ⟨_, rfl⟩) ?_
    refine jv_gI (jv_dk t_X9_around (k := 4) rfl) fl_X9_15 (fun v2 => ?_)
    refine jv_icmp_ge (tgt := 27) (jv_dk t_X9_around (k := 5) rfl) rfl (fun c3 => ?_) (fun c3 => ?_)
    · refine jv_iconst (v := (-1)) (jv_dk t_X9_around (k := 14) rfl) (by decide) ?_
      exact jv_iret (ty := .int) (jv_dk t_X9_around (k := 15) rfl) rfl rfl rfl
    · show jv_O _ _ _ _ 12 _ _ _ _
      refine jv_iload_n (jv_dk t_X9_around (k := 6) rfl) rfl rfl ?_
      refine jv_bipush (v := 8) (jv_dk t_X9_around (k := 7) rfl) (by decide) ?_
      refine jv_icmp_ge (tgt := 27) (jv_dk t_X9_around (k := 8) rfl) rfl (fun c4 => ?_) (fun c4 => ?_)
      · refine jv_iconst (v := (-1)) (jv_dk t_X9_around (k := 14) rfl) (by decide) ?_
        exact jv_iret (ty := .int) (jv_dk t_X9_around (k := 15) rfl) rfl rfl rfl
      · show jv_O _ _ _ _ 18 _ _ _ _
        refine jv_aload_n (jv_dk t_X9_around (k := 9) rfl) rfl rfl (Or.inr ⟨_, rfl⟩) ?_
        refine jv_gR (jv_dk t_X9_around (k := 10) rfl) fl_X9_9 (fun v5 => ?_)
        refine jv_iload_n (jv_dk t_X9_around (k := 11) rfl) rfl rfl ?_
        refine jv_iaload (jv_dk t_X9_around (k := 12) rfl) (fun v6 => ?_)
        refine jv_goto (tgt := 28) (jv_dk t_X9_around (k := 13) rfl) rfl ?_
        exact jv_iret (ty := .int) (jv_dk t_X9_around (k := 15) rfl) rfl rfl rfl
def t0_X2_spread : List (Nat × Instr × Nat) := [(0, .iconst 1, 1), (1, .iload_n 1, 1), (2, .ishl, 1), (3, .istore_n 2, 1), (4, .iload_n 1, 1), (5, .iconst 1, 1), (6, .iadd, 1), (7, .istore_n 3, 1), (8, .iload_n 3, 1), (9, .aload_n 0, 1), (10, .getfield 12, 3), (13, .getfield 41, 3), (16, .if_icmp .ge 49, 3), (19, .aload_n 0, 1), (20, .getfield 12, 3), (23, .iload_n 3, 1), (24, .invokevirtual 44, 3), (27, .istore 4, 2), (29, .iload 4, 2), (31, .iconst (-1), 1), (32, .if_icmp .eq 27, 3), (35, .iload_n 2, 1), (36, .iload 4, 2), (38, .invokestatic 37, 3), (41, .ifCond .eq 18, 3), (44, .aload_n 0, 1), (45, .iload 4, 2), (47, .invokevirtual 48, 3), (50, .ifCond .eq 9, 3), (53, .iload_n 2, 1), (54, .iconst 1, 1), (55, .iload_n 3, 1), (56, .ishl, 1), (57, .ior, 1), (58, .istore_n 2, 1), (59, .iinc 3 1, 3), (62, .goto (-54), 3), (65, .iload_n 2, 1), (66, .ireturn, 1)]
theorem t_X2_spread : jv_dec cX2_spread t0_X2_spread = true := by decide +kernel
def M_X2_spread : jm := (yX2_spread, cX2_spread, 5, (some .int), 2, 42, [])
theorem fl_X2_41 : jv_F RX2 41 7 1 RX9 TX9 2 := ⟨rfl, by decide, inX9, Or.inr ⟨"SpaceWarden", (jv_at 277 (by decide +kernel))⟩⟩
theorem lk_X2_44 : jv_lk RX2 44 M_X9_around := Or.inr ⟨"SpaceWarden", (jv_at 757 (by decide +kernel))⟩
set_option maxRecDepth 20000 in
theorem me_X9_around : jv_me M_X9_around 1 := ⟨(jv_in2 (List.mem_of_getElem? (i := 238) rfl)), (jv_at 166 (by decide +kernel)), ⟨by decide, by decide⟩, by decide +kernel⟩
theorem lk_X2_48 : Cond.methodLink RX2 48 M_X2_isShared.1 ∈ lw_tbl := (jv_at 759 (by decide +kernel))
set_option maxRecDepth 20000 in
theorem me_X2_isShared : jv_me M_X2_isShared 1 := ⟨(jv_in3 (List.mem_of_getElem? (i := 122) rfl)), (jv_at 168 (by decide +kernel)), ⟨by decide, by decide⟩, by decide +kernel⟩
theorem mv_X2_isShared : jv_mv M_X2_isShared := ⟨(jv_at 761 (by decide +kernel)), (jv_at 47 (by decide +kernel))⟩
theorem mv_X9_around : jv_mv M_X9_around := ⟨(jv_at 637 (by decide +kernel)), (jv_at 20 (by decide +kernel))⟩
def f_X2_spread_h8 (K8 : Int32 → jh → Option (Int32 × jh)) (R8 : Nat → Int32 → Int32 → jh → Option (Int32 × jh)) (x0 : Nat) (x2 : Int32) (x3 : Int32) (h : jh) : Option (Int32 × jh) :=
  gR h x0 0 0 fun v1 =>
  gI h v1 7 1 fun v2 =>
  (if v2 ≤ x3 then
  K8 x2 h
  else
  gR h x0 0 0 fun v4 =>
  cV h v4 7 (f_X9_around v4 x3 h) fun v5 h6 =>
  (if v5 = (-1) then
  R8 x0 x2 (x3 + 1) h6
  else
  bd (f_X12_holds x2 v5 h6) fun v8 h9 =>
  (if v8 = 0 then
  R8 x0 x2 (x3 + 1) h9
  else
  cV h9 x0 0 (f_X2_isShared x0 v5 h9) fun v11 h12 =>
  (if v11 = 0 then
  R8 x0 x2 (x3 + 1) h12
  else
  R8 x0 (x2 ||| (1 <<< (x3 &&& 31))) (x3 + 1) h12))))
theorem o_f_X2_spread_h8 {X : jx} {b0 : Nat × Nat} {K8 : Int32 → jh → Option (Int32 × jh)} (hK8 : ∀ (x2 : Int32) (h : jh), jv_O X M_X2_spread b0 jeI 65 [none, none, some (.int (x2)), none, none] [] h (K8 x2 h)) : ∀ (x0 : Nat) (x2 : Int32) (x3 : Int32) (h : jh), jv_O X M_X2_spread b0 jeI 8 [some (.ref (x0)), none, some (.int (x2)), some (.int (x3)), none] [] h (jlp3 (f_X2_spread_h8 K8) jfu x0 x2 x3 h) := by
  refine jlp3_ok (P := fun x0 x2 x3 h o => jv_O X M_X2_spread b0 jeI 8 [some (.ref (x0)), none, some (.int (x2)), some (.int (x3)), none] [] h o) (fun R8 hR8 => ?_) (fun _ _ _ _  => jv_none rfl) jfu
  intro x0 x2 x3 h
  unfold f_X2_spread_h8
  refine jv_iload_n (jv_dk t_X2_spread (k := 8) rfl) rfl rfl ?_
  refine jv_aload_n (jv_dk t_X2_spread (k := 9) rfl) rfl rfl (Or.inr ⟨_, rfl⟩) ?_
  refine jv_gR (jv_dk t_X2_spread (k := 10) rfl) fl_X2_12 (fun v1 => ?_)
  refine jv_gI (jv_dk t_X2_spread (k := 11) rfl) fl_X2_41 (fun v2 => ?_)
  refine jv_icmp_ge (tgt := 65) (jv_dk t_X2_spread (k := 12) rfl) rfl (fun c3 => ?_) (fun c3 => ?_)
  · refine jv_le_row (jv_le_n (jv_le_n (jv_le_s (jv_le_n (jv_le_n (jv_le_nil)))))) ?_
    exact hK8 _ _ 
  · show jv_O _ _ _ _ 19 _ _ _ _
    refine jv_aload_n (jv_dk t_X2_spread (k := 13) rfl) rfl rfl (Or.inr ⟨_, rfl⟩) ?_
    refine jv_gR (jv_dk t_X2_spread (k := 14) rfl) fl_X2_12 (fun v4 => ?_)
    refine jv_iload_n (jv_dk t_X2_spread (k := 15) rfl) rfl rfl ?_
    refine jv_callV (en' := jeI) (pv := jpI) (As := [.int (x3)]) (S := []) (jv_dk t_X2_spread (k := 16) rfl) (fun _ => rfl) lk_X2_44 me_X9_around mv_X9_around ⟨by decide, by decide⟩ rfl rfl rfl (Nat.le_of_ble_eq_true rfl) (P_X9_around X v4 x3 h) (fun v5 h6 => ?_)
    show jv_O X M_X2_spread _ jeI 27 [some (.ref (x0)), none, some (.int (x2)), some (.int (x3)), none] [.int (v5)] h6 _
    refine jv_istore (L' := [some (.ref (x0)), none, some (.int (x2)), some (.int (x3)), some (.int (v5))]) (jv_dk t_X2_spread (k := 17) rfl) (Nat.le_of_ble_eq_true rfl) rfl ?_
    refine jv_iload (jv_dk t_X2_spread (k := 18) rfl) rfl ?_
    refine jv_iconst (v := (-1)) (jv_dk t_X2_spread (k := 19) rfl) (by decide) ?_
    refine jv_icmp_eq (tgt := 59) (jv_dk t_X2_spread (k := 20) rfl) rfl (fun c7 => ?_) (fun c7 => ?_)
    · refine jv_iinc (v := 1) (L' := [some (.ref (x0)), none, some (.int (x2)), some (.int (x3 + 1)), some (.int (v5))]) (jv_dk t_X2_spread (k := 35) rfl) rfl (by decide) rfl ?_
      refine jv_goto (tgt := 8) (jv_dk t_X2_spread (k := 36) rfl) rfl ?_
      refine jv_le_row (jv_le_s (jv_le_n (jv_le_s (jv_le_s (jv_le_n (jv_le_nil)))))) ?_
      exact hR8 _ _ _ _ 
    · show jv_O _ _ _ _ 35 _ _ _ _
      refine jv_iload_n (jv_dk t_X2_spread (k := 21) rfl) rfl rfl ?_
      refine jv_iload (jv_dk t_X2_spread (k := 22) rfl) rfl ?_
      refine jv_callS (en' := jeI) (pv := jpI) (As := [.int (x2), .int (v5)]) (S := []) (jv_dk t_X2_spread (k := 23) rfl) (fun _ => rfl) lk_X2_37 me_X12_holds ms_X12_holds ⟨by decide, by decide⟩ rfl rfl (Nat.le_of_ble_eq_true rfl) (P_X12_holds X x2 v5 h6) (fun v8 h9 => ?_)
      show jv_O X M_X2_spread _ jeI 41 [some (.ref (x0)), none, some (.int (x2)), some (.int (x3)), some (.int (v5))] [.int (v8)] h9 _
      refine jv_if_eq (tgt := 59) (jv_dk t_X2_spread (k := 24) rfl) rfl (fun c10 => ?_) (fun c10 => ?_)
      · refine jv_iinc (v := 1) (L' := [some (.ref (x0)), none, some (.int (x2)), some (.int (x3 + 1)), some (.int (v5))]) (jv_dk t_X2_spread (k := 35) rfl) rfl (by decide) rfl ?_
        refine jv_goto (tgt := 8) (jv_dk t_X2_spread (k := 36) rfl) rfl ?_
        refine jv_le_row (jv_le_s (jv_le_n (jv_le_s (jv_le_s (jv_le_n (jv_le_nil)))))) ?_
        exact hR8 _ _ _ _ 
      · show jv_O _ _ _ _ 44 _ _ _ _
        refine jv_aload_n (jv_dk t_X2_spread (k := 25) rfl) rfl rfl (Or.inr ⟨_, rfl⟩) ?_
        refine jv_iload (jv_dk t_X2_spread (k := 26) rfl) rfl ?_
        refine jv_callV (en' := jeI) (pv := jpI) (As := [.int (v5)]) (S := []) (jv_dk t_X2_spread (k := 27) rfl) (fun _ => rfl) (Or.inl lk_X2_48) me_X2_isShared mv_X2_isShared ⟨by decide, by decide⟩ rfl rfl rfl (Nat.le_of_ble_eq_true rfl) (P_X2_isShared X x0 v5 h9) (fun v11 h12 => ?_)
        show jv_O X M_X2_spread _ jeI 50 [some (.ref (x0)), none, some (.int (x2)), some (.int (x3)), some (.int (v5))] [.int (v11)] h12 _
        refine jv_if_eq (tgt := 59) (jv_dk t_X2_spread (k := 28) rfl) rfl (fun c13 => ?_) (fun c13 => ?_)
        · refine jv_iinc (v := 1) (L' := [some (.ref (x0)), none, some (.int (x2)), some (.int (x3 + 1)), some (.int (v5))]) (jv_dk t_X2_spread (k := 35) rfl) rfl (by decide) rfl ?_
          refine jv_goto (tgt := 8) (jv_dk t_X2_spread (k := 36) rfl) rfl ?_
          refine jv_le_row (jv_le_s (jv_le_n (jv_le_s (jv_le_s (jv_le_n (jv_le_nil)))))) ?_
          exact hR8 _ _ _ _ 
        · show jv_O _ _ _ _ 53 _ _ _ _
          refine jv_iload_n (jv_dk t_X2_spread (k := 29) rfl) rfl rfl ?_
          refine jv_iconst (v := 1) (jv_dk t_X2_spread (k := 30) rfl) (by decide) ?_
          refine jv_iload_n (jv_dk t_X2_spread (k := 31) rfl) rfl rfl ?_
          refine jv_ishl (jv_dk t_X2_spread (k := 32) rfl) ?_
          refine jv_ior (jv_dk t_X2_spread (k := 33) rfl) ?_
          refine jv_istore_n (L' := [some (.ref (x0)), none, some (.int (x2 ||| (1 <<< (x3 &&& 31)))), some (.int (x3)), some (.int (v5))]) (jv_dk t_X2_spread (k := 34) rfl) rfl (Nat.le_of_ble_eq_true rfl) rfl ?_
          refine jv_iinc (v := 1) (L' := [some (.ref (x0)), none, some (.int (x2 ||| (1 <<< (x3 &&& 31)))), some (.int (x3 + 1)), some (.int (v5))]) (jv_dk t_X2_spread (k := 35) rfl) rfl (by decide) rfl ?_
          refine jv_goto (tgt := 8) (jv_dk t_X2_spread (k := 36) rfl) rfl ?_
          refine jv_le_row (jv_le_s (jv_le_n (jv_le_s (jv_le_s (jv_le_n (jv_le_nil)))))) ?_
          exact hR8 _ _ _ _ 
def f_X2_spread (a0 : Nat) (a1 : Int32) (h : jh) : Option (Int32 × jh) :=
  jlp3 (f_X2_spread_h8 (fun y15 h14 =>
  some (y15, h14))) jfu a0 (1 <<< (a1 &&& 31)) (a1 + 1) h
theorem P_X2_spread (X : jx) (a0 : Nat) (a1 : Int32) (h : jh) : jv_P X M_X2_spread jeI [.ref (a0), .int (a1)] h (f_X2_spread a0 a1 h) := by
  refine jv_P.of (by decide) rfl (by simp [Value.category]) (Nat.le_of_ble_eq_true rfl) ?_
  show jv_O X M_X2_spread (h.1, h.2.1) jeI 0 [some (.ref (a0)), some (.int (a1)), none, none, none] [] h (f_X2_spread a0 a1 h)
  unfold f_X2_spread
  refine jv_iconst (v := 1) (jv_dk t_X2_spread (k := 0) rfl) (by decide) ?_
  refine jv_iload_n (jv_dk t_X2_spread (k := 1) rfl) rfl rfl ?_
  refine jv_ishl (jv_dk t_X2_spread (k := 2) rfl) ?_
  refine jv_istore_n (L' := [some (.ref (a0)), some (.int (a1)), some (.int (1 <<< (a1 &&& 31))), none, none]) (jv_dk t_X2_spread (k := 3) rfl) rfl (Nat.le_of_ble_eq_true rfl) rfl ?_
  refine jv_iload_n (jv_dk t_X2_spread (k := 4) rfl) rfl rfl ?_
  refine jv_iconst (v := 1) (jv_dk t_X2_spread (k := 5) rfl) (by decide) ?_
  refine jv_iadd (jv_dk t_X2_spread (k := 6) rfl) ?_
  refine jv_istore_n (L' := [some (.ref (a0)), some (.int (a1)), some (.int (1 <<< (a1 &&& 31))), some (.int (a1 + 1)), none]) (jv_dk t_X2_spread (k := 7) rfl) rfl (Nat.le_of_ble_eq_true rfl) rfl ?_
  refine jv_le_row (jv_le_s (jv_le_n (jv_le_s (jv_le_s (jv_le_n (jv_le_nil)))))) ?_
  refine o_f_X2_spread_h8 (fun y15 h14 => ?_) _ _ _ _ 
  show jv_O X M_X2_spread _ jeI 65 [none, none, some (.int (y15)), none, none] [] h14 _
  refine jv_iload_n (jv_dk t_X2_spread (k := 37) rfl) rfl rfl ?_
  exact jv_iret (ty := .int) (jv_dk t_X2_spread (k := 38) rfl) rfl rfl rfl
def t0_X2_placesInUse : List (Nat × Instr × Nat) := [(0, .iconst 0, 1), (1, .istore_n 2, 1), (2, .iconst 0, 1), (3, .istore_n 3, 1), (4, .iload_n 3, 1), (5, .bipush 8, 2), (7, .if_icmp .ge 26, 3), (10, .aload_n 0, 1), (11, .getfield 22, 3), (14, .iload_n 1, 1), (15, .bipush 8, 2), (17, .imul, 1), (18, .iload_n 3, 1), (19, .iadd, 1), (20, .iaload, 1), (21, .ifCond .eq 6, 3), (24, .iinc 2 1, 3), (27, .iinc 3 1, 3), (30, .goto (-26), 3), (33, .iload_n 2, 1), (34, .ireturn, 1)]
theorem t_X2_placesInUse : jv_dec cX2_placesInUse t0_X2_placesInUse = true := by decide +kernel
def M_X2_placesInUse : jm := (yX2_placesInUse, cX2_placesInUse, 4, (some .int), 0, 0, [])
def f_X2_placesInUse_h4 (K4 : Int32 → jh → Option (Int32 × jh)) (R4 : Nat → Int32 → Int32 → Int32 → jh → Option (Int32 × jh)) (x0 : Nat) (x1 : Int32) (x2 : Int32) (x3 : Int32) (h : jh) : Option (Int32 × jh) :=
  (if 8 ≤ x3 then
  K4 x2 h
  else
  gR h x0 0 2 fun v2 =>
  aI h v2 ((x1 * 8) + x3) fun v3 =>
  (if v3 = 0 then
  R4 x0 x1 x2 (x3 + 1) h
  else
  R4 x0 x1 (x2 + 1) (x3 + 1) h))
theorem o_f_X2_placesInUse_h4 {X : jx} {b0 : Nat × Nat} {K4 : Int32 → jh → Option (Int32 × jh)} (hK4 : ∀ (x2 : Int32) (h : jh), jv_O X M_X2_placesInUse b0 jeI 33 [none, none, some (.int (x2)), none] [] h (K4 x2 h)) : ∀ (x0 : Nat) (x1 : Int32) (x2 : Int32) (x3 : Int32) (h : jh), jv_O X M_X2_placesInUse b0 jeI 4 [some (.ref (x0)), some (.int (x1)), some (.int (x2)), some (.int (x3))] [] h (jlp4 (f_X2_placesInUse_h4 K4) jfu x0 x1 x2 x3 h) := by
  refine jlp4_ok (P := fun x0 x1 x2 x3 h o => jv_O X M_X2_placesInUse b0 jeI 4 [some (.ref (x0)), some (.int (x1)), some (.int (x2)), some (.int (x3))] [] h o) (fun R4 hR4 => ?_) (fun _ _ _ _ _  => jv_none rfl) jfu
  intro x0 x1 x2 x3 h
  unfold f_X2_placesInUse_h4
  refine jv_iload_n (jv_dk t_X2_placesInUse (k := 4) rfl) rfl rfl ?_
  refine jv_bipush (v := 8) (jv_dk t_X2_placesInUse (k := 5) rfl) (by decide) ?_
  refine jv_icmp_ge (tgt := 33) (jv_dk t_X2_placesInUse (k := 6) rfl) rfl (fun c1 => ?_) (fun c1 => ?_)
  · refine jv_le_row (jv_le_n (jv_le_n (jv_le_s (jv_le_n (jv_le_nil))))) ?_
    exact hK4 _ _ 
  · show jv_O _ _ _ _ 10 _ _ _ _
    refine jv_aload_n (jv_dk t_X2_placesInUse (k := 7) rfl) rfl rfl (Or.inr ⟨_, rfl⟩) ?_
    refine jv_gR (jv_dk t_X2_placesInUse (k := 8) rfl) fl_X2_22 (fun v2 => ?_)
    refine jv_iload_n (jv_dk t_X2_placesInUse (k := 9) rfl) rfl rfl ?_
    refine jv_bipush (v := 8) (jv_dk t_X2_placesInUse (k := 10) rfl) (by decide) ?_
    refine jv_imul (jv_dk t_X2_placesInUse (k := 11) rfl) ?_
    refine jv_iload_n (jv_dk t_X2_placesInUse (k := 12) rfl) rfl rfl ?_
    refine jv_iadd (jv_dk t_X2_placesInUse (k := 13) rfl) ?_
    refine jv_iaload (jv_dk t_X2_placesInUse (k := 14) rfl) (fun v3 => ?_)
    refine jv_if_eq (tgt := 27) (jv_dk t_X2_placesInUse (k := 15) rfl) rfl (fun c4 => ?_) (fun c4 => ?_)
    · refine jv_iinc (v := 1) (L' := [some (.ref (x0)), some (.int (x1)), some (.int (x2)), some (.int (x3 + 1))]) (jv_dk t_X2_placesInUse (k := 17) rfl) rfl (by decide) rfl ?_
      refine jv_goto (tgt := 4) (jv_dk t_X2_placesInUse (k := 18) rfl) rfl ?_
      exact hR4 _ _ _ _ _ 
    · show jv_O _ _ _ _ 24 _ _ _ _
      refine jv_iinc (v := 1) (L' := [some (.ref (x0)), some (.int (x1)), some (.int (x2 + 1)), some (.int (x3))]) (jv_dk t_X2_placesInUse (k := 16) rfl) rfl (by decide) rfl ?_
      refine jv_iinc (v := 1) (L' := [some (.ref (x0)), some (.int (x1)), some (.int (x2 + 1)), some (.int (x3 + 1))]) (jv_dk t_X2_placesInUse (k := 17) rfl) rfl (by decide) rfl ?_
      refine jv_goto (tgt := 4) (jv_dk t_X2_placesInUse (k := 18) rfl) rfl ?_
      exact hR4 _ _ _ _ _ 
def f_X2_placesInUse (a0 : Nat) (a1 : Int32) (h : jh) : Option (Int32 × jh) :=
  jlp4 (f_X2_placesInUse_h4 (fun y6 h5 =>
  some (y6, h5))) jfu a0 a1 0 0 h
theorem P_X2_placesInUse (X : jx) (a0 : Nat) (a1 : Int32) (h : jh) : jv_P X M_X2_placesInUse jeI [.ref (a0), .int (a1)] h (f_X2_placesInUse a0 a1 h) := by
  refine jv_P.of (by decide) rfl (by simp [Value.category]) (Nat.le_of_ble_eq_true rfl) ?_
  show jv_O X M_X2_placesInUse (h.1, h.2.1) jeI 0 [some (.ref (a0)), some (.int (a1)), none, none] [] h (f_X2_placesInUse a0 a1 h)
  unfold f_X2_placesInUse
  refine jv_iconst (v := 0) (jv_dk t_X2_placesInUse (k := 0) rfl) (by decide) ?_
  refine jv_istore_n (L' := [some (.ref (a0)), some (.int (a1)), some (.int (0)), none]) (jv_dk t_X2_placesInUse (k := 1) rfl) rfl (Nat.le_of_ble_eq_true rfl) rfl ?_
  refine jv_iconst (v := 0) (jv_dk t_X2_placesInUse (k := 2) rfl) (by decide) ?_
  refine jv_istore_n (L' := [some (.ref (a0)), some (.int (a1)), some (.int (0)), some (.int (0))]) (jv_dk t_X2_placesInUse (k := 3) rfl) rfl (Nat.le_of_ble_eq_true rfl) rfl ?_
  refine o_f_X2_placesInUse_h4 (fun y6 h5 => ?_) _ _ _ _ _ 
  show jv_O X M_X2_placesInUse _ jeI 33 [none, none, some (.int (y6)), none] [] h5 _
  refine jv_iload_n (jv_dk t_X2_placesInUse (k := 19) rfl) rfl rfl ?_
  exact jv_iret (ty := .int) (jv_dk t_X2_placesInUse (k := 20) rfl) rfl rfl rfl
def t0_X2_put : List (Nat × Instr × Nat) := [(0, .aload_n 0, 1), (1, .iload_n 1, 1), (2, .invokevirtual 52, 3), (5, .istore 4, 2), (7, .iconst 0, 1), (8, .istore 5, 2), (10, .iload 5, 2), (12, .bipush 8, 2), (14, .if_icmp .ge 32, 3), (17, .iload 4, 2), (19, .iload 5, 2), (21, .invokestatic 37, 3), (24, .ifCond .eq 16, 3), (27, .aload_n 0, 1), (28, .getfield 22, 3), (31, .iload 5, 2), (33, .bipush 8, 2), (35, .imul, 1), (36, .iload_n 2, 1), (37, .iadd, 1), (38, .iload_n 3, 1), (39, .iastore, 1), (40, .iinc 5 1, 3), (43, .goto (-33), 3), (46, .return_, 1)]
theorem t_X2_put : jv_dec cX2_put t0_X2_put = true := by decide +kernel
def M_X2_put : jm := (yX2_put, cX2_put, 6, none, 3, 66, [])
theorem lk_X2_52 : Cond.methodLink RX2 52 M_X2_spread.1 ∈ lw_tbl := (jv_at 753 (by decide +kernel))
set_option maxRecDepth 20000 in
theorem me_X2_spread : jv_me M_X2_spread 1 := ⟨(jv_in3 (List.mem_of_getElem? (i := 116) rfl)), (jv_at 168 (by decide +kernel)), ⟨by decide, by decide⟩, by decide +kernel⟩
theorem mv_X2_spread : jv_mv M_X2_spread := ⟨(jv_at 755 (by decide +kernel)), (jv_at 46 (by decide +kernel))⟩
def f_X2_put_h10 (K10 : jh → Option (Unit × jh)) (R10 : Nat → Int32 → Int32 → Int32 → Int32 → jh → Option (Unit × jh)) (x0 : Nat) (x2 : Int32) (x3 : Int32) (x4 : Int32) (x5 : Int32) (h : jh) : Option (Unit × jh) :=
  (if 8 ≤ x5 then
  K10  h
  else
  bd (f_X12_holds x4 x5 h) fun v4 h5 =>
  (if v4 = 0 then
  R10 x0 x2 x3 x4 (x5 + 1) h5
  else
  gR h5 x0 0 2 fun v7 =>
  sI h5 v7 ((x5 * 8) + x2) x3 fun h8 =>
  R10 x0 x2 x3 x4 (x5 + 1) h8))
theorem o_f_X2_put_h10 {X : jx} {b0 : Nat × Nat} {K10 : jh → Option (Unit × jh)} (hK10 : ∀  (h : jh), jv_O X M_X2_put b0 jeV 46 [none, none, none, none, none, none] [] h (K10  h)) : ∀ (x0 : Nat) (x2 : Int32) (x3 : Int32) (x4 : Int32) (x5 : Int32) (h : jh), jv_O X M_X2_put b0 jeV 10 [some (.ref (x0)), none, some (.int (x2)), some (.int (x3)), some (.int (x4)), some (.int (x5))] [] h (jlp5 (f_X2_put_h10 K10) jfu x0 x2 x3 x4 x5 h) := by
  refine jlp5_ok (P := fun x0 x2 x3 x4 x5 h o => jv_O X M_X2_put b0 jeV 10 [some (.ref (x0)), none, some (.int (x2)), some (.int (x3)), some (.int (x4)), some (.int (x5))] [] h o) (fun R10 hR10 => ?_) (fun _ _ _ _ _ _  => jv_none rfl) jfu
  intro x0 x2 x3 x4 x5 h
  unfold f_X2_put_h10
  refine jv_iload (jv_dk t_X2_put (k := 6) rfl) rfl ?_
  refine jv_bipush (v := 8) (jv_dk t_X2_put (k := 7) rfl) (by decide) ?_
  refine jv_icmp_ge (tgt := 46) (jv_dk t_X2_put (k := 8) rfl) rfl (fun c3 => ?_) (fun c3 => ?_)
  · refine jv_le_row (jv_le_n (jv_le_n (jv_le_n (jv_le_n (jv_le_n (jv_le_n (jv_le_nil))))))) ?_
    exact hK10 _ 
  · show jv_O _ _ _ _ 17 _ _ _ _
    refine jv_iload (jv_dk t_X2_put (k := 9) rfl) rfl ?_
    refine jv_iload (jv_dk t_X2_put (k := 10) rfl) rfl ?_
    refine jv_callS (en' := jeI) (pv := jpI) (As := [.int (x4), .int (x5)]) (S := []) (jv_dk t_X2_put (k := 11) rfl) (fun _ => rfl) lk_X2_37 me_X12_holds ms_X12_holds ⟨by decide, by decide⟩ rfl rfl (Nat.le_of_ble_eq_true rfl) (P_X12_holds X x4 x5 h) (fun v4 h5 => ?_)
    show jv_O X M_X2_put _ jeV 24 [some (.ref (x0)), none, some (.int (x2)), some (.int (x3)), some (.int (x4)), some (.int (x5))] [.int (v4)] h5 _
    refine jv_if_eq (tgt := 40) (jv_dk t_X2_put (k := 12) rfl) rfl (fun c6 => ?_) (fun c6 => ?_)
    · refine jv_iinc (v := 1) (L' := [some (.ref (x0)), none, some (.int (x2)), some (.int (x3)), some (.int (x4)), some (.int (x5 + 1))]) (jv_dk t_X2_put (k := 22) rfl) rfl (by decide) rfl ?_
      refine jv_goto (tgt := 10) (jv_dk t_X2_put (k := 23) rfl) rfl ?_
      exact hR10 _ _ _ _ _ _ 
    · show jv_O _ _ _ _ 27 _ _ _ _
      refine jv_aload_n (jv_dk t_X2_put (k := 13) rfl) rfl rfl (Or.inr ⟨_, rfl⟩) ?_
      refine jv_gR (jv_dk t_X2_put (k := 14) rfl) fl_X2_22 (fun v7 => ?_)
      refine jv_iload (jv_dk t_X2_put (k := 15) rfl) rfl ?_
      refine jv_bipush (v := 8) (jv_dk t_X2_put (k := 16) rfl) (by decide) ?_
      refine jv_imul (jv_dk t_X2_put (k := 17) rfl) ?_
      refine jv_iload_n (jv_dk t_X2_put (k := 18) rfl) rfl rfl ?_
      refine jv_iadd (jv_dk t_X2_put (k := 19) rfl) ?_
      refine jv_iload_n (jv_dk t_X2_put (k := 20) rfl) rfl rfl ?_
      refine jv_iastore (jv_dk t_X2_put (k := 21) rfl) (fun h8 => ?_)
      refine jv_iinc (v := 1) (L' := [some (.ref (x0)), none, some (.int (x2)), some (.int (x3)), some (.int (x4)), some (.int (x5 + 1))]) (jv_dk t_X2_put (k := 22) rfl) rfl (by decide) rfl ?_
      refine jv_goto (tgt := 10) (jv_dk t_X2_put (k := 23) rfl) rfl ?_
      exact hR10 _ _ _ _ _ _ 
def f_X2_put (a0 : Nat) (a1 : Int32) (a2 : Int32) (a3 : Int32) (h : jh) : Option (Unit × jh) :=
  cV h a0 0 (f_X2_spread a0 a1 h) fun v1 h2 =>
  jlp5 (f_X2_put_h10 (fun  h9 =>
  some ((), h9))) jfu a0 a2 a3 v1 0 h2
theorem P_X2_put (X : jx) (a0 : Nat) (a1 : Int32) (a2 : Int32) (a3 : Int32) (h : jh) : jv_P X M_X2_put jeV [.ref (a0), .int (a1), .int (a2), .int (a3)] h (f_X2_put a0 a1 a2 a3 h) := by
  refine jv_P.of (by decide) rfl (by simp [Value.category]) (Nat.le_of_ble_eq_true rfl) ?_
  show jv_O X M_X2_put (h.1, h.2.1) jeV 0 [some (.ref (a0)), some (.int (a1)), some (.int (a2)), some (.int (a3)), none, none] [] h (f_X2_put a0 a1 a2 a3 h)
  unfold f_X2_put
  refine jv_aload_n (jv_dk t_X2_put (k := 0) rfl) rfl rfl (Or.inr ⟨_, rfl⟩) ?_
  refine jv_iload_n (jv_dk t_X2_put (k := 1) rfl) rfl rfl ?_
  refine jv_callV (en' := jeI) (pv := jpI) (As := [.int (a1)]) (S := []) (jv_dk t_X2_put (k := 2) rfl) (fun _ => rfl) (Or.inl lk_X2_52) me_X2_spread mv_X2_spread ⟨by decide, by decide⟩ rfl rfl rfl (Nat.le_of_ble_eq_true rfl) (P_X2_spread X a0 a1 h) (fun v1 h2 => ?_)
  show jv_O X M_X2_put _ jeV 5 [some (.ref (a0)), some (.int (a1)), some (.int (a2)), some (.int (a3)), none, none] [.int (v1)] h2 _
  refine jv_istore (L' := [some (.ref (a0)), some (.int (a1)), some (.int (a2)), some (.int (a3)), some (.int (v1)), none]) (jv_dk t_X2_put (k := 3) rfl) (Nat.le_of_ble_eq_true rfl) rfl ?_
  refine jv_iconst (v := 0) (jv_dk t_X2_put (k := 4) rfl) (by decide) ?_
  refine jv_istore (L' := [some (.ref (a0)), some (.int (a1)), some (.int (a2)), some (.int (a3)), some (.int (v1)), some (.int (0))]) (jv_dk t_X2_put (k := 5) rfl) (Nat.le_of_ble_eq_true rfl) rfl ?_
  refine jv_le_row (jv_le_s (jv_le_n (jv_le_s (jv_le_s (jv_le_s (jv_le_s (jv_le_nil))))))) ?_
  refine o_f_X2_put_h10 (fun  h9 => ?_) _ _ _ _ _ _ 
  show jv_O X M_X2_put _ jeV 46 [none, none, none, none, none, none] [] h9 _
  exact jv_vret (jv_dk t_X2_put (k := 24) rfl) rfl rfl
def t0_X2_copyThings : List (Nat × Instr × Nat) := [(0, .iconst 0, 1), (1, .istore_n 3, 1), (2, .iload_n 3, 1), (3, .bipush 8, 2), (5, .if_icmp .ge 31, 3), (8, .aload_n 0, 1), (9, .getfield 22, 3), (12, .iload_n 2, 1), (13, .bipush 8, 2), (15, .imul, 1), (16, .iload_n 3, 1), (17, .iadd, 1), (18, .aload_n 0, 1), (19, .getfield 22, 3), (22, .iload_n 1, 1), (23, .bipush 8, 2), (25, .imul, 1), (26, .iload_n 3, 1), (27, .iadd, 1), (28, .iaload, 1), (29, .iastore, 1), (30, .iinc 3 1, 3), (33, .goto (-31), 3), (36, .return_, 1)]
theorem t_X2_copyThings : jv_dec cX2_copyThings t0_X2_copyThings = true := by decide +kernel
def M_X2_copyThings : jm := (yX2_copyThings, cX2_copyThings, 4, none, 0, 0, [])
def f_X2_copyThings_h2 (K2 : jh → Option (Unit × jh)) (R2 : Nat → Int32 → Int32 → Int32 → jh → Option (Unit × jh)) (x0 : Nat) (x1 : Int32) (x2 : Int32) (x3 : Int32) (h : jh) : Option (Unit × jh) :=
  (if 8 ≤ x3 then
  K2  h
  else
  gR h x0 0 2 fun v2 =>
  gR h x0 0 2 fun v3 =>
  aI h v3 ((x1 * 8) + x3) fun v4 =>
  sI h v2 ((x2 * 8) + x3) v4 fun h5 =>
  R2 x0 x1 x2 (x3 + 1) h5)
theorem o_f_X2_copyThings_h2 {X : jx} {b0 : Nat × Nat} {K2 : jh → Option (Unit × jh)} (hK2 : ∀  (h : jh), jv_O X M_X2_copyThings b0 jeV 36 [none, none, none, none] [] h (K2  h)) : ∀ (x0 : Nat) (x1 : Int32) (x2 : Int32) (x3 : Int32) (h : jh), jv_O X M_X2_copyThings b0 jeV 2 [some (.ref (x0)), some (.int (x1)), some (.int (x2)), some (.int (x3))] [] h (jlp4 (f_X2_copyThings_h2 K2) jfu x0 x1 x2 x3 h) := by
  refine jlp4_ok (P := fun x0 x1 x2 x3 h o => jv_O X M_X2_copyThings b0 jeV 2 [some (.ref (x0)), some (.int (x1)), some (.int (x2)), some (.int (x3))] [] h o) (fun R2 hR2 => ?_) (fun _ _ _ _ _  => jv_none rfl) jfu
  intro x0 x1 x2 x3 h
  unfold f_X2_copyThings_h2
  refine jv_iload_n (jv_dk t_X2_copyThings (k := 2) rfl) rfl rfl ?_
  refine jv_bipush (v := 8) (jv_dk t_X2_copyThings (k := 3) rfl) (by decide) ?_
  refine jv_icmp_ge (tgt := 36) (jv_dk t_X2_copyThings (k := 4) rfl) rfl (fun c1 => ?_) (fun c1 => ?_)
  · refine jv_le_row (jv_le_n (jv_le_n (jv_le_n (jv_le_n (jv_le_nil))))) ?_
    exact hK2 _ 
  · show jv_O _ _ _ _ 8 _ _ _ _
    refine jv_aload_n (jv_dk t_X2_copyThings (k := 5) rfl) rfl rfl (Or.inr ⟨_, rfl⟩) ?_
    refine jv_gR (jv_dk t_X2_copyThings (k := 6) rfl) fl_X2_22 (fun v2 => ?_)
    refine jv_iload_n (jv_dk t_X2_copyThings (k := 7) rfl) rfl rfl ?_
    refine jv_bipush (v := 8) (jv_dk t_X2_copyThings (k := 8) rfl) (by decide) ?_
    refine jv_imul (jv_dk t_X2_copyThings (k := 9) rfl) ?_
    refine jv_iload_n (jv_dk t_X2_copyThings (k := 10) rfl) rfl rfl ?_
    refine jv_iadd (jv_dk t_X2_copyThings (k := 11) rfl) ?_
    refine jv_aload_n (jv_dk t_X2_copyThings (k := 12) rfl) rfl rfl (Or.inr ⟨_, rfl⟩) ?_
    refine jv_gR (jv_dk t_X2_copyThings (k := 13) rfl) fl_X2_22 (fun v3 => ?_)
    refine jv_iload_n (jv_dk t_X2_copyThings (k := 14) rfl) rfl rfl ?_
    refine jv_bipush (v := 8) (jv_dk t_X2_copyThings (k := 15) rfl) (by decide) ?_
    refine jv_imul (jv_dk t_X2_copyThings (k := 16) rfl) ?_
    refine jv_iload_n (jv_dk t_X2_copyThings (k := 17) rfl) rfl rfl ?_
    refine jv_iadd (jv_dk t_X2_copyThings (k := 18) rfl) ?_
    refine jv_iaload (jv_dk t_X2_copyThings (k := 19) rfl) (fun v4 => ?_)
    refine jv_iastore (jv_dk t_X2_copyThings (k := 20) rfl) (fun h5 => ?_)
    refine jv_iinc (v := 1) (L' := [some (.ref (x0)), some (.int (x1)), some (.int (x2)), some (.int (x3 + 1))]) (jv_dk t_X2_copyThings (k := 21) rfl) rfl (by decide) rfl ?_
    refine jv_goto (tgt := 2) (jv_dk t_X2_copyThings (k := 22) rfl) rfl ?_
    exact hR2 _ _ _ _ _ 
def f_X2_copyThings (a0 : Nat) (a1 : Int32) (a2 : Int32) (h : jh) : Option (Unit × jh) :=
  jlp4 (f_X2_copyThings_h2 (fun  h6 =>
  some ((), h6))) jfu a0 a1 a2 0 h
theorem P_X2_copyThings (X : jx) (a0 : Nat) (a1 : Int32) (a2 : Int32) (h : jh) : jv_P X M_X2_copyThings jeV [.ref (a0), .int (a1), .int (a2)] h (f_X2_copyThings a0 a1 a2 h) := by
  refine jv_P.of (by decide) rfl (by simp [Value.category]) (Nat.le_of_ble_eq_true rfl) ?_
  show jv_O X M_X2_copyThings (h.1, h.2.1) jeV 0 [some (.ref (a0)), some (.int (a1)), some (.int (a2)), none] [] h (f_X2_copyThings a0 a1 a2 h)
  unfold f_X2_copyThings
  refine jv_iconst (v := 0) (jv_dk t_X2_copyThings (k := 0) rfl) (by decide) ?_
  refine jv_istore_n (L' := [some (.ref (a0)), some (.int (a1)), some (.int (a2)), some (.int (0))]) (jv_dk t_X2_copyThings (k := 1) rfl) rfl (Nat.le_of_ble_eq_true rfl) rfl ?_
  refine o_f_X2_copyThings_h2 (fun  h6 => ?_) _ _ _ _ _ 
  show jv_O X M_X2_copyThings _ jeV 36 [none, none, none, none] [] h6 _
  exact jv_vret (jv_dk t_X2_copyThings (k := 23) rfl) rfl rfl
def t0_X3_init : List (Nat × Instr × Nat) := [(0, .aload_n 0, 1), (1, .invokespecial 3, 3), (4, .aload_n 0, 1), (5, .bipush 8, 2), (7, .newarray .int, 2), (9, .putfield 9, 3), (12, .aload_n 0, 1), (13, .bipush 8, 2), (15, .newarray .int, 2), (17, .putfield 15, 3), (20, .aload_n 0, 1), (21, .bipush 8, 2), (23, .newarray .int, 2), (25, .putfield 18, 3), (28, .aload_n 0, 1), (29, .iconst 0, 1), (30, .putfield 21, 3), (33, .return_, 1)]
theorem t_X3_init : jv_dec cX3_init t0_X3_init = true := by decide +kernel
def M_X3_init : jm := (yX3_init, cX3_init, 1, none, 1, 20, [])
theorem oi_X3_3 : Cond.methodLink RX3 3 Lib.objectInit ∈ lw_tbl := (jv_at 394 (by decide +kernel))
theorem fl_X3_9 : jv_F RX3 9 1 0 RX3 TX3 4 := ⟨rfl, by decide, inX3, Or.inl (jv_at 395 (by decide +kernel))⟩
theorem ff_X3_9 : Cond.fieldLink RX3 9 (TX3 0).1 (TX3 0).2.1 (TX3 0).2.2.1 ∈ lw_tbl := (jv_at 395 (by decide +kernel))
theorem fl_X3_15 : jv_F RX3 15 1 1 RX3 TX3 4 := ⟨rfl, by decide, inX3, Or.inl (jv_at 396 (by decide +kernel))⟩
theorem ff_X3_15 : Cond.fieldLink RX3 15 (TX3 1).1 (TX3 1).2.1 (TX3 1).2.2.1 ∈ lw_tbl := (jv_at 396 (by decide +kernel))
theorem fl_X3_18 : jv_F RX3 18 1 2 RX3 TX3 4 := ⟨rfl, by decide, inX3, Or.inl (jv_at 397 (by decide +kernel))⟩
theorem ff_X3_18 : Cond.fieldLink RX3 18 (TX3 2).1 (TX3 2).2.1 (TX3 2).2.2.1 ∈ lw_tbl := (jv_at 397 (by decide +kernel))
theorem fl_X3_21 : jv_F RX3 21 1 3 RX3 TX3 4 := ⟨rfl, by decide, inX3, Or.inl (jv_at 398 (by decide +kernel))⟩
def f_X3_init (a0 : Nat) (h : jh) : Option (Unit × jh) :=
  nI4 h 8 fun q1 h2 =>
  pV h2 a0 1 0 (.ref (q1)) fun h3 =>
  nI4 h3 8 fun q4 h5 =>
  pV h5 a0 1 1 (.ref (q4)) fun h6 =>
  nI4 h6 8 fun q7 h8 =>
  pV h8 a0 1 2 (.ref (q7)) fun h9 =>
  pV h9 a0 1 3 (.int (0)) fun h10 =>
  some ((), h10)
theorem P_X3_init (X : jx) (a0 : Nat) (h : jh) : jv_P X M_X3_init jeV [.ref (a0)] h (f_X3_init a0 h) := by
  refine jv_P.of (by decide) rfl (by simp [Value.category]) (Nat.le_of_ble_eq_true rfl) ?_
  show jv_O X M_X3_init (h.1, h.2.1) jeV 0 [some (.ref (a0))] [] h (f_X3_init a0 h)
  unfold f_X3_init
  refine jv_aload_n (jv_dk t_X3_init (k := 0) rfl) rfl rfl (Or.inr ⟨_, rfl⟩) ?_
  refine jv_obj (jv_dk t_X3_init (k := 1) rfl) oi_X3_3 oi_2 oi_3 (Nat.le_of_ble_eq_true rfl) ⟨by decide, by decide⟩ ?_
  refine jv_aload_n (jv_dk t_X3_init (k := 2) rfl) rfl rfl (Or.inr ⟨_, rfl⟩) ?_
  refine jv_bipush (v := 8) (jv_dk t_X3_init (k := 3) rfl) (by decide) ?_
  refine jv_newI (jv_dk t_X3_init (k := 4) rfl) ac_I (fun q1 h2 => ?_)
  refine jv_pV (jv_dk t_X3_init (k := 5) rfl) fl_X3_9 kX3 (Or.inr ⟨rfl, rfl, rfl, ff_X3_9⟩) rfl rfl rfl (fun h3 => ?_)
  refine jv_aload_n (jv_dk t_X3_init (k := 6) rfl) rfl rfl (Or.inr ⟨_, rfl⟩) ?_
  refine jv_bipush (v := 8) (jv_dk t_X3_init (k := 7) rfl) (by decide) ?_
  refine jv_newI (jv_dk t_X3_init (k := 8) rfl) ac_I (fun q4 h5 => ?_)
  refine jv_pV (jv_dk t_X3_init (k := 9) rfl) fl_X3_15 kX3 (Or.inr ⟨rfl, rfl, rfl, ff_X3_15⟩) rfl rfl rfl (fun h6 => ?_)
  refine jv_aload_n (jv_dk t_X3_init (k := 10) rfl) rfl rfl (Or.inr ⟨_, rfl⟩) ?_
  refine jv_bipush (v := 8) (jv_dk t_X3_init (k := 11) rfl) (by decide) ?_
  refine jv_newI (jv_dk t_X3_init (k := 12) rfl) ac_I (fun q7 h8 => ?_)
  refine jv_pV (jv_dk t_X3_init (k := 13) rfl) fl_X3_18 kX3 (Or.inr ⟨rfl, rfl, rfl, ff_X3_18⟩) rfl rfl rfl (fun h9 => ?_)
  refine jv_aload_n (jv_dk t_X3_init (k := 14) rfl) rfl rfl (Or.inr ⟨_, rfl⟩) ?_
  refine jv_iconst (v := 0) (jv_dk t_X3_init (k := 15) rfl) (by decide) ?_
  refine jv_pV (jv_dk t_X3_init (k := 16) rfl) fl_X3_21 kX3 (Or.inl rfl) rfl rfl rfl (fun h10 => ?_)
  exact jv_vret (jv_dk t_X3_init (k := 17) rfl) rfl rfl
def t0_X3_copy : List (Nat × Instr × Nat) := [(0, .aload_n 1, 1), (1, .getfield 9, 3), (4, .aload_n 0, 1), (5, .getfield 9, 3), (8, .invokestatic 25, 3), (11, .aload_n 1, 1), (12, .getfield 15, 3), (15, .aload_n 0, 1), (16, .getfield 15, 3), (19, .invokestatic 25, 3), (22, .aload_n 1, 1), (23, .getfield 18, 3), (26, .aload_n 0, 1), (27, .getfield 18, 3), (30, .invokestatic 25, 3), (33, .aload_n 0, 1), (34, .aload_n 1, 1), (35, .getfield 21, 3), (38, .putfield 21, 3), (41, .return_, 1)]
theorem t_X3_copy : jv_dec cX3_copy t0_X3_copy = true := by decide +kernel
def M_X3_copy : jm := (yX3_copy, cX3_copy, 2, none, 2, 61, [])
theorem lk_X3_25 : jv_lk RX3 25 M_X12_copyRow := Or.inr ⟨"SpaceWarden", (jv_at 930 (by decide +kernel))⟩
def f_X3_copy (a0 : Nat) (a1 : Nat) (h : jh) : Option (Unit × jh) :=
  gR h a1 1 0 fun v1 =>
  gR h a0 1 0 fun v2 =>
  bd (f_X12_copyRow v1 v2 h) fun _ h3 =>
  gR h3 a1 1 1 fun v4 =>
  gR h3 a0 1 1 fun v5 =>
  bd (f_X12_copyRow v4 v5 h3) fun _ h6 =>
  gR h6 a1 1 2 fun v7 =>
  gR h6 a0 1 2 fun v8 =>
  bd (f_X12_copyRow v7 v8 h6) fun _ h9 =>
  gI h9 a1 1 3 fun v10 =>
  pV h9 a0 1 3 (.int (v10)) fun h11 =>
  some ((), h11)
theorem P_X3_copy (X : jx) (a0 : Nat) (a1 : Nat) (h : jh) : jv_P X M_X3_copy jeV [.ref (a0), .ref (a1)] h (f_X3_copy a0 a1 h) := by
  refine jv_P.of (by decide) rfl (by simp [Value.category]) (Nat.le_of_ble_eq_true rfl) ?_
  show jv_O X M_X3_copy (h.1, h.2.1) jeV 0 [some (.ref (a0)), some (.ref (a1))] [] h (f_X3_copy a0 a1 h)
  unfold f_X3_copy
  refine jv_aload_n (jv_dk t_X3_copy (k := 0) rfl) rfl rfl (Or.inr ⟨_, rfl⟩) ?_
  refine jv_gR (jv_dk t_X3_copy (k := 1) rfl) fl_X3_9 (fun v1 => ?_)
  refine jv_aload_n (jv_dk t_X3_copy (k := 2) rfl) rfl rfl (Or.inr ⟨_, rfl⟩) ?_
  refine jv_gR (jv_dk t_X3_copy (k := 3) rfl) fl_X3_9 (fun v2 => ?_)
  refine jv_callS (en' := jeV) (pv := jpV) (As := [.ref (v1), .ref (v2)]) (S := []) (jv_dk t_X3_copy (k := 4) rfl) (fun _ => rfl) lk_X3_25 me_X12_copyRow ms_X12_copyRow ⟨by decide, by decide⟩ rfl rfl (Nat.le_of_ble_eq_true rfl) (P_X12_copyRow X v1 v2 h) (fun _ h3 => ?_)
  show jv_O X M_X3_copy _ jeV 11 [some (.ref (a0)), some (.ref (a1))] [] h3 _
  refine jv_aload_n (jv_dk t_X3_copy (k := 5) rfl) rfl rfl (Or.inr ⟨_, rfl⟩) ?_
  refine jv_gR (jv_dk t_X3_copy (k := 6) rfl) fl_X3_15 (fun v4 => ?_)
  refine jv_aload_n (jv_dk t_X3_copy (k := 7) rfl) rfl rfl (Or.inr ⟨_, rfl⟩) ?_
  refine jv_gR (jv_dk t_X3_copy (k := 8) rfl) fl_X3_15 (fun v5 => ?_)
  refine jv_callS (en' := jeV) (pv := jpV) (As := [.ref (v4), .ref (v5)]) (S := []) (jv_dk t_X3_copy (k := 9) rfl) (fun _ => rfl) lk_X3_25 me_X12_copyRow ms_X12_copyRow ⟨by decide, by decide⟩ rfl rfl (Nat.le_of_ble_eq_true rfl) (P_X12_copyRow X v4 v5 h3) (fun _ h6 => ?_)
  show jv_O X M_X3_copy _ jeV 22 [some (.ref (a0)), some (.ref (a1))] [] h6 _
  refine jv_aload_n (jv_dk t_X3_copy (k := 10) rfl) rfl rfl (Or.inr ⟨_, rfl⟩) ?_
  refine jv_gR (jv_dk t_X3_copy (k := 11) rfl) fl_X3_18 (fun v7 => ?_)
  refine jv_aload_n (jv_dk t_X3_copy (k := 12) rfl) rfl rfl (Or.inr ⟨_, rfl⟩) ?_
  refine jv_gR (jv_dk t_X3_copy (k := 13) rfl) fl_X3_18 (fun v8 => ?_)
  refine jv_callS (en' := jeV) (pv := jpV) (As := [.ref (v7), .ref (v8)]) (S := []) (jv_dk t_X3_copy (k := 14) rfl) (fun _ => rfl) lk_X3_25 me_X12_copyRow ms_X12_copyRow ⟨by decide, by decide⟩ rfl rfl (Nat.le_of_ble_eq_true rfl) (P_X12_copyRow X v7 v8 h6) (fun _ h9 => ?_)
  show jv_O X M_X3_copy _ jeV 33 [some (.ref (a0)), some (.ref (a1))] [] h9 _
  refine jv_aload_n (jv_dk t_X3_copy (k := 15) rfl) rfl rfl (Or.inr ⟨_, rfl⟩) ?_
  refine jv_aload_n (jv_dk t_X3_copy (k := 16) rfl) rfl rfl (Or.inr ⟨_, rfl⟩) ?_
  refine jv_gI (jv_dk t_X3_copy (k := 17) rfl) fl_X3_21 (fun v10 => ?_)
  refine jv_pV (jv_dk t_X3_copy (k := 18) rfl) fl_X3_21 kX3 (Or.inl rfl) rfl rfl rfl (fun h11 => ?_)
  exact jv_vret (jv_dk t_X3_copy (k := 19) rfl) rfl rfl
def t0_X12_bit : List (Nat × Instr × Nat) := [(0, .iload_n 0, 1), (1, .ifCond .eq 7, 3), (4, .iconst 1, 1), (5, .goto 4, 3), (8, .iconst 0, 1), (9, .ireturn, 1)]
theorem t_X12_bit : jv_dec cX12_bit t0_X12_bit = true := by decide +kernel
def M_X12_bit : jm := (yX12_bit, cX12_bit, 1, (some .int), 0, 0, [])
def f_X12_bit (a0 : Int32) (h : jh) : Option (Int32 × jh) :=
  (if a0 = 0 then
  some (0, h)
  else
  some (1, h))
theorem P_X12_bit (X : jx) (a0 : Int32) (h : jh) : jv_P X M_X12_bit jeI [.int (a0)] h (f_X12_bit a0 h) := by
  refine jv_P.of (by decide) rfl (by simp [Value.category]) (Nat.le_of_ble_eq_true rfl) ?_
  show jv_O X M_X12_bit (h.1, h.2.1) jeI 0 [some (.int (a0))] [] h (f_X12_bit a0 h)
  unfold f_X12_bit
  refine jv_iload_n (jv_dk t_X12_bit (k := 0) rfl) rfl rfl ?_
  refine jv_if_eq (tgt := 8) (jv_dk t_X12_bit (k := 1) rfl) rfl (fun c1 => ?_) (fun c1 => ?_)
  · refine jv_iconst (v := 0) (jv_dk t_X12_bit (k := 4) rfl) (by decide) ?_
    exact jv_iret (ty := .int) (jv_dk t_X12_bit (k := 5) rfl) rfl rfl rfl
  · show jv_O _ _ _ _ 4 _ _ _ _
    refine jv_iconst (v := 1) (jv_dk t_X12_bit (k := 2) rfl) (by decide) ?_
    refine jv_goto (tgt := 9) (jv_dk t_X12_bit (k := 3) rfl) rfl ?_
    exact jv_iret (ty := .int) (jv_dk t_X12_bit (k := 5) rfl) rfl rfl rfl
def t0_X3_add : List (Nat × Instr × Nat) := [(0, .aload_n 0, 1), (1, .getfield 21, 3), (4, .bipush 8, 2), (6, .if_icmp .ge 46, 3), (9, .aload_n 0, 1), (10, .getfield 9, 3), (13, .aload_n 0, 1), (14, .getfield 21, 3), (17, .iload_n 1, 1), (18, .iastore, 1), (19, .aload_n 0, 1), (20, .getfield 15, 3), (23, .aload_n 0, 1), (24, .getfield 21, 3), (27, .iload_n 2, 1), (28, .iastore, 1), (29, .aload_n 0, 1), (30, .getfield 18, 3), (33, .aload_n 0, 1), (34, .getfield 21, 3), (37, .iload_n 3, 1), (38, .invokestatic 29, 3), (41, .iastore, 1), (42, .aload_n 0, 1), (43, .dup, 1), (44, .getfield 21, 3), (47, .iconst 1, 1), (48, .iadd, 1), (49, .putfield 21, 3), (52, .return_, 1)]
theorem t_X3_add : jv_dec cX3_add t0_X3_add = true := by decide +kernel
def M_X3_add : jm := (yX3_add, cX3_add, 4, none, 1, 20, [])
theorem lk_X3_29 : jv_lk RX3 29 M_X12_bit := Or.inr ⟨"SpaceWarden", (jv_at 893 (by decide +kernel))⟩
set_option maxRecDepth 20000 in
theorem me_X12_bit : jv_me M_X12_bit 1 := ⟨(jv_in3 (List.mem_of_getElem? (i := 175) rfl)), (jv_at 161 (by decide +kernel)), ⟨by decide, by decide⟩, by decide +kernel⟩
theorem ms_X12_bit : jv_ms M_X12_bit := (jv_at 814 (by decide +kernel))
def f_X3_add (a0 : Nat) (a1 : Int32) (a2 : Int32) (a3 : Int32) (h : jh) : Option (Unit × jh) :=
  gI h a0 1 3 fun v1 =>
  (if 8 ≤ v1 then
  some ((), h)
  else
  gR h a0 1 0 fun v3 =>
  gI h a0 1 3 fun v4 =>
  sI h v3 v4 a1 fun h5 =>
  gR h5 a0 1 1 fun v6 =>
  gI h5 a0 1 3 fun v7 =>
  sI h5 v6 v7 a2 fun h8 =>
  gR h8 a0 1 2 fun v9 =>
  gI h8 a0 1 3 fun v10 =>
  bd (f_X12_bit a3 h8) fun v11 h12 =>
  sI h12 v9 v10 v11 fun h13 =>
  gI h13 a0 1 3 fun v14 =>
  pV h13 a0 1 3 (.int (v14 + 1)) fun h15 =>
  some ((), h15))
theorem P_X3_add (X : jx) (a0 : Nat) (a1 : Int32) (a2 : Int32) (a3 : Int32) (h : jh) : jv_P X M_X3_add jeV [.ref (a0), .int (a1), .int (a2), .int (a3)] h (f_X3_add a0 a1 a2 a3 h) := by
  refine jv_P.of (by decide) rfl (by simp [Value.category]) (Nat.le_of_ble_eq_true rfl) ?_
  show jv_O X M_X3_add (h.1, h.2.1) jeV 0 [some (.ref (a0)), some (.int (a1)), some (.int (a2)), some (.int (a3))] [] h (f_X3_add a0 a1 a2 a3 h)
  unfold f_X3_add
  refine jv_aload_n (jv_dk t_X3_add (k := 0) rfl) rfl rfl (Or.inr ⟨_, rfl⟩) ?_
  refine jv_gI (jv_dk t_X3_add (k := 1) rfl) fl_X3_21 (fun v1 => ?_)
  refine jv_bipush (v := 8) (jv_dk t_X3_add (k := 2) rfl) (by decide) ?_
  refine jv_icmp_ge (tgt := 52) (jv_dk t_X3_add (k := 3) rfl) rfl (fun c2 => ?_) (fun c2 => ?_)
  · exact jv_vret (jv_dk t_X3_add (k := 29) rfl) rfl rfl
  · show jv_O _ _ _ _ 9 _ _ _ _
    refine jv_aload_n (jv_dk t_X3_add (k := 4) rfl) rfl rfl (Or.inr ⟨_, rfl⟩) ?_
    refine jv_gR (jv_dk t_X3_add (k := 5) rfl) fl_X3_9 (fun v3 => ?_)
    refine jv_aload_n (jv_dk t_X3_add (k := 6) rfl) rfl rfl (Or.inr ⟨_, rfl⟩) ?_
    refine jv_gI (jv_dk t_X3_add (k := 7) rfl) fl_X3_21 (fun v4 => ?_)
    refine jv_iload_n (jv_dk t_X3_add (k := 8) rfl) rfl rfl ?_
    refine jv_iastore (jv_dk t_X3_add (k := 9) rfl) (fun h5 => ?_)
    refine jv_aload_n (jv_dk t_X3_add (k := 10) rfl) rfl rfl (Or.inr ⟨_, rfl⟩) ?_
    refine jv_gR (jv_dk t_X3_add (k := 11) rfl) fl_X3_15 (fun v6 => ?_)
    refine jv_aload_n (jv_dk t_X3_add (k := 12) rfl) rfl rfl (Or.inr ⟨_, rfl⟩) ?_
    refine jv_gI (jv_dk t_X3_add (k := 13) rfl) fl_X3_21 (fun v7 => ?_)
    refine jv_iload_n (jv_dk t_X3_add (k := 14) rfl) rfl rfl ?_
    refine jv_iastore (jv_dk t_X3_add (k := 15) rfl) (fun h8 => ?_)
    refine jv_aload_n (jv_dk t_X3_add (k := 16) rfl) rfl rfl (Or.inr ⟨_, rfl⟩) ?_
    refine jv_gR (jv_dk t_X3_add (k := 17) rfl) fl_X3_18 (fun v9 => ?_)
    refine jv_aload_n (jv_dk t_X3_add (k := 18) rfl) rfl rfl (Or.inr ⟨_, rfl⟩) ?_
    refine jv_gI (jv_dk t_X3_add (k := 19) rfl) fl_X3_21 (fun v10 => ?_)
    refine jv_iload_n (jv_dk t_X3_add (k := 20) rfl) rfl rfl ?_
    refine jv_callS (en' := jeI) (pv := jpI) (As := [.int (a3)]) (S := [.int (v10), .ref (v9)]) (jv_dk t_X3_add (k := 21) rfl) (fun _ => rfl) lk_X3_29 me_X12_bit ms_X12_bit ⟨by decide, by decide⟩ rfl rfl (Nat.le_of_ble_eq_true rfl) (P_X12_bit X a3 h8) (fun v11 h12 => ?_)
    show jv_O X M_X3_add _ jeV 41 [some (.ref (a0)), some (.int (a1)), some (.int (a2)), some (.int (a3))] [.int (v11), .int (v10), .ref (v9)] h12 _
    refine jv_iastore (jv_dk t_X3_add (k := 22) rfl) (fun h13 => ?_)
    refine jv_aload_n (jv_dk t_X3_add (k := 23) rfl) rfl rfl (Or.inr ⟨_, rfl⟩) ?_
    refine jv_dup (jv_dk t_X3_add (k := 24) rfl) rfl ?_
    refine jv_gI (jv_dk t_X3_add (k := 25) rfl) fl_X3_21 (fun v14 => ?_)
    refine jv_iconst (v := 1) (jv_dk t_X3_add (k := 26) rfl) (by decide) ?_
    refine jv_iadd (jv_dk t_X3_add (k := 27) rfl) ?_
    refine jv_pV (jv_dk t_X3_add (k := 28) rfl) fl_X3_21 kX3 (Or.inl rfl) rfl rfl rfl (fun h15 => ?_)
    exact jv_vret (jv_dk t_X3_add (k := 29) rfl) rfl rfl
def t0_X5_has : List (Nat × Instr × Nat) := [(0, .iload_n 1, 1), (1, .ifCond .lt 24, 3), (4, .iload_n 1, 1), (5, .bipush 16, 2), (7, .if_icmp .ge 18, 3), (10, .aload_n 0, 1), (11, .getfield 33, 3), (14, .iload_n 1, 1), (15, .invokestatic 44, 3), (18, .ifCond .eq 7, 3), (21, .iconst 1, 1), (22, .goto 4, 3), (25, .iconst 0, 1), (26, .ireturn, 1)]
theorem t_X5_has : jv_dec cX5_has t0_X5_has = true := by decide +kernel
def M_X5_has : jm := (yX5_has, cX5_has, 2, (some .boolean), 1, 21, [])
theorem fl_X5_33 : jv_F RX5 33 3 7 RX5 TX5 9 := ⟨rfl, by decide, inX5, Or.inl (jv_at 237 (by decide +kernel))⟩
theorem lk_X5_44 : jv_lk RX5 44 M_X12_holds := Or.inr ⟨"SpaceWarden", (jv_at 591 (by decide +kernel))⟩
def f_X5_has (a0 : Nat) (a1 : Int32) (h : jh) : Option (Int32 × jh) :=
  (if a1 < 0 then
  some (0, h)
  else
  (if 16 ≤ a1 then
  some (0, h)
  else
  gI h a0 3 7 fun v3 =>
  bd (f_X12_holds v3 a1 h) fun v4 h5 =>
  (if v4 = 0 then
  some (0, h5)
  else
  some (1, h5))))
theorem P_X5_has (X : jx) (a0 : Nat) (a1 : Int32) (h : jh) : jv_P X M_X5_has jeI [.ref (a0), .int (a1)] h (f_X5_has a0 a1 h) := by
  refine jv_P.of (by decide) rfl (by simp [Value.category]) (Nat.le_of_ble_eq_true rfl) ?_
  show jv_O X M_X5_has (h.1, h.2.1) jeI 0 [some (.ref (a0)), some (.int (a1))] [] h (f_X5_has a0 a1 h)
  unfold f_X5_has
  refine jv_iload_n (jv_dk t_X5_has (k := 0) rfl) rfl rfl ?_
  refine jv_if_lt (tgt := 25) (jv_dk t_X5_has (k := 1) rfl) rfl (fun c1 => ?_) (fun c1 => ?_)
  · refine jv_iconst (v := 0) (jv_dk t_X5_has (k := 12) rfl) (by decide) ?_
    exact jv_iret (ty := .boolean) (jv_dk t_X5_has (k := 13) rfl) rfl rfl rfl
  · show jv_O _ _ _ _ 4 _ _ _ _
    refine jv_iload_n (jv_dk t_X5_has (k := 2) rfl) rfl rfl ?_
    refine jv_bipush (v := 16) (jv_dk t_X5_has (k := 3) rfl) (by decide) ?_
    refine jv_icmp_ge (tgt := 25) (jv_dk t_X5_has (k := 4) rfl) rfl (fun c2 => ?_) (fun c2 => ?_)
    · refine jv_iconst (v := 0) (jv_dk t_X5_has (k := 12) rfl) (by decide) ?_
      exact jv_iret (ty := .boolean) (jv_dk t_X5_has (k := 13) rfl) rfl rfl rfl
    · show jv_O _ _ _ _ 10 _ _ _ _
      refine jv_aload_n (jv_dk t_X5_has (k := 5) rfl) rfl rfl (Or.inr ⟨_, rfl⟩) ?_
      refine jv_gI (jv_dk t_X5_has (k := 6) rfl) fl_X5_33 (fun v3 => ?_)
      refine jv_iload_n (jv_dk t_X5_has (k := 7) rfl) rfl rfl ?_
      refine jv_callS (en' := jeI) (pv := jpI) (As := [.int (v3), .int (a1)]) (S := []) (jv_dk t_X5_has (k := 8) rfl) (fun _ => rfl) lk_X5_44 me_X12_holds ms_X12_holds ⟨by decide, by decide⟩ rfl rfl (Nat.le_of_ble_eq_true rfl) (P_X12_holds X v3 a1 h) (fun v4 h5 => ?_)
      show jv_O X M_X5_has _ jeI 18 [some (.ref (a0)), some (.int (a1))] [.int (v4)] h5 _
      refine jv_if_eq (tgt := 25) (jv_dk t_X5_has (k := 9) rfl) rfl (fun c6 => ?_) (fun c6 => ?_)
      · refine jv_iconst (v := 0) (jv_dk t_X5_has (k := 12) rfl) (by decide) ?_
        exact jv_iret (ty := .boolean) (jv_dk t_X5_has (k := 13) rfl) rfl rfl rfl
      · show jv_O _ _ _ _ 21 _ _ _ _
        refine jv_iconst (v := 1) (jv_dk t_X5_has (k := 10) rfl) (by decide) ?_
        refine jv_goto (tgt := 26) (jv_dk t_X5_has (k := 11) rfl) rfl ?_
        exact jv_iret (ty := .boolean) (jv_dk t_X5_has (k := 13) rfl) rfl rfl rfl
def t0_X11_isInit : List (Nat × Instr × Nat) := [(0, .aload_n 0, 1), (1, .getfield 21, 3), (4, .getfield 128, 3), (7, .aload_n 0, 1), (8, .getfield 12, 3), (11, .getfield 131, 3), (14, .iload_n 1, 1), (15, .iaload, 1), (16, .iaload, 1), (17, .iload_n 1, 1), (18, .if_icmp .ne 7, 3), (21, .iconst 1, 1), (22, .goto 4, 3), (25, .iconst 0, 1), (26, .ireturn, 1)]
theorem t_X11_isInit : jv_dec cX11_isInit t0_X11_isInit = true := by decide +kernel
def M_X11_isInit : jm := (yX11_isInit, cX11_isInit, 2, (some .boolean), 0, 0, [])
theorem fl_X11_21 : jv_F RX11 21 9 1 RX11 TX11 4 := ⟨rfl, by decide, inX11, Or.inl (jv_at 370 (by decide +kernel))⟩
theorem fl_X11_128 : jv_F RX11 128 2 3 RX4 TX4 4 := ⟨rfl, by decide, inX4, Or.inr ⟨"SpaceWarden", (jv_at 293 (by decide +kernel))⟩⟩
theorem fl_X11_12 : jv_F RX11 12 9 0 RX11 TX11 4 := ⟨rfl, by decide, inX11, Or.inl (jv_at 366 (by decide +kernel))⟩
theorem fl_X11_131 : jv_F RX11 131 3 1 RX5 TX5 9 := ⟨rfl, by decide, inX5, Or.inr ⟨"SpaceWarden", (jv_at 219 (by decide +kernel))⟩⟩
def f_X11_isInit (a0 : Nat) (a1 : Int32) (h : jh) : Option (Int32 × jh) :=
  gR h a0 9 1 fun v1 =>
  gR h v1 2 3 fun v2 =>
  gR h a0 9 0 fun v3 =>
  gR h v3 3 1 fun v4 =>
  aI h v4 a1 fun v5 =>
  aI h v2 v5 fun v6 =>
  (if ¬ v6 = a1 then
  some (0, h)
  else
  some (1, h))
theorem P_X11_isInit (X : jx) (a0 : Nat) (a1 : Int32) (h : jh) : jv_P X M_X11_isInit jeI [.ref (a0), .int (a1)] h (f_X11_isInit a0 a1 h) := by
  refine jv_P.of (by decide) rfl (by simp [Value.category]) (Nat.le_of_ble_eq_true rfl) ?_
  show jv_O X M_X11_isInit (h.1, h.2.1) jeI 0 [some (.ref (a0)), some (.int (a1))] [] h (f_X11_isInit a0 a1 h)
  unfold f_X11_isInit
  refine jv_aload_n (jv_dk t_X11_isInit (k := 0) rfl) rfl rfl (Or.inr ⟨_, rfl⟩) ?_
  refine jv_gR (jv_dk t_X11_isInit (k := 1) rfl) fl_X11_21 (fun v1 => ?_)
  refine jv_gR (jv_dk t_X11_isInit (k := 2) rfl) fl_X11_128 (fun v2 => ?_)
  refine jv_aload_n (jv_dk t_X11_isInit (k := 3) rfl) rfl rfl (Or.inr ⟨_, rfl⟩) ?_
  refine jv_gR (jv_dk t_X11_isInit (k := 4) rfl) fl_X11_12 (fun v3 => ?_)
  refine jv_gR (jv_dk t_X11_isInit (k := 5) rfl) fl_X11_131 (fun v4 => ?_)
  refine jv_iload_n (jv_dk t_X11_isInit (k := 6) rfl) rfl rfl ?_
  refine jv_iaload (jv_dk t_X11_isInit (k := 7) rfl) (fun v5 => ?_)
  refine jv_iaload (jv_dk t_X11_isInit (k := 8) rfl) (fun v6 => ?_)
  refine jv_iload_n (jv_dk t_X11_isInit (k := 9) rfl) rfl rfl ?_
  refine jv_icmp_ne (tgt := 25) (jv_dk t_X11_isInit (k := 10) rfl) rfl (fun c7 => ?_) (fun c7 => ?_)
  · refine jv_iconst (v := 0) (jv_dk t_X11_isInit (k := 13) rfl) (by decide) ?_
    exact jv_iret (ty := .boolean) (jv_dk t_X11_isInit (k := 14) rfl) rfl rfl rfl
  · show jv_O _ _ _ _ 21 _ _ _ _
    refine jv_iconst (v := 1) (jv_dk t_X11_isInit (k := 11) rfl) (by decide) ?_
    refine jv_goto (tgt := 26) (jv_dk t_X11_isInit (k := 12) rfl) rfl ?_
    exact jv_iret (ty := .boolean) (jv_dk t_X11_isInit (k := 14) rfl) rfl rfl rfl
def t0_X9_isUnder : List (Nat × Instr × Nat) := [(0, .iload_n 1, 1), (1, .istore_n 3, 1), (2, .iconst 0, 1), (3, .istore 4, 2), (5, .iload 4, 2), (7, .bipush 8, 2), (9, .if_icmp .ge 27, 3), (12, .iload_n 3, 1), (13, .iconst (-1), 1), (14, .if_icmp .eq 22, 3), (17, .iload_n 3, 1), (18, .iload_n 2, 1), (19, .if_icmp .ne 5, 3), (22, .iconst 1, 1), (23, .ireturn, 1), (24, .aload_n 0, 1), (25, .iload_n 3, 1), (26, .invokevirtual 23, 3), (29, .istore_n 3, 1), (30, .iinc 4 1, 3), (33, .goto (-28), 3), (36, .iconst 0, 1), (37, .ireturn, 1)]
theorem t_X9_isUnder : jv_dec cX9_isUnder t0_X9_isUnder = true := by decide +kernel
def M_X9_isUnder : jm := (yX9_isUnder, cX9_isUnder, 5, (some .boolean), 1, 21, [])
theorem lk_X9_23 : Cond.methodLink RX9 23 M_X9_around.1 ∈ lw_tbl := (jv_at 672 (by decide +kernel))
def f_X9_isUnder_h5 (K5 : jh → Option (Int32 × jh)) (R5 : Nat → Int32 → Int32 → Int32 → jh → Option (Int32 × jh)) (x0 : Nat) (x2 : Int32) (x3 : Int32) (x4 : Int32) (h : jh) : Option (Int32 × jh) :=
  (if 8 ≤ x4 then
  K5  h
  else
  (if x3 = (-1) then
  K5  h
  else
  (if ¬ x3 = x2 then
  cV h x0 7 (f_X9_around x0 x3 h) fun v4 h5 =>
  R5 x0 x2 v4 (x4 + 1) h5
  else
  some (1, h))))
theorem o_f_X9_isUnder_h5 {X : jx} {b0 : Nat × Nat} {K5 : jh → Option (Int32 × jh)} (hK5 : ∀  (h : jh), jv_O X M_X9_isUnder b0 jeI 36 [none, none, none, none, none] [] h (K5  h)) : ∀ (x0 : Nat) (x2 : Int32) (x3 : Int32) (x4 : Int32) (h : jh), jv_O X M_X9_isUnder b0 jeI 5 [some (.ref (x0)), none, some (.int (x2)), some (.int (x3)), some (.int (x4))] [] h (jlp4 (f_X9_isUnder_h5 K5) jfu x0 x2 x3 x4 h) := by
  refine jlp4_ok (P := fun x0 x2 x3 x4 h o => jv_O X M_X9_isUnder b0 jeI 5 [some (.ref (x0)), none, some (.int (x2)), some (.int (x3)), some (.int (x4))] [] h o) (fun R5 hR5 => ?_) (fun _ _ _ _ _  => jv_none rfl) jfu
  intro x0 x2 x3 x4 h
  unfold f_X9_isUnder_h5
  refine jv_iload (jv_dk t_X9_isUnder (k := 4) rfl) rfl ?_
  refine jv_bipush (v := 8) (jv_dk t_X9_isUnder (k := 5) rfl) (by decide) ?_
  refine jv_icmp_ge (tgt := 36) (jv_dk t_X9_isUnder (k := 6) rfl) rfl (fun c1 => ?_) (fun c1 => ?_)
  · refine jv_le_row (jv_le_n (jv_le_n (jv_le_n (jv_le_n (jv_le_n (jv_le_nil)))))) ?_
    exact hK5 _ 
  · show jv_O _ _ _ _ 12 _ _ _ _
    refine jv_iload_n (jv_dk t_X9_isUnder (k := 7) rfl) rfl rfl ?_
    refine jv_iconst (v := (-1)) (jv_dk t_X9_isUnder (k := 8) rfl) (by decide) ?_
    refine jv_icmp_eq (tgt := 36) (jv_dk t_X9_isUnder (k := 9) rfl) rfl (fun c2 => ?_) (fun c2 => ?_)
    · refine jv_le_row (jv_le_n (jv_le_n (jv_le_n (jv_le_n (jv_le_n (jv_le_nil)))))) ?_
      exact hK5 _ 
    · show jv_O _ _ _ _ 17 _ _ _ _
      refine jv_iload_n (jv_dk t_X9_isUnder (k := 10) rfl) rfl rfl ?_
      refine jv_iload_n (jv_dk t_X9_isUnder (k := 11) rfl) rfl rfl ?_
      refine jv_icmp_ne (tgt := 24) (jv_dk t_X9_isUnder (k := 12) rfl) rfl (fun c3 => ?_) (fun c3 => ?_)
      · refine jv_aload_n (jv_dk t_X9_isUnder (k := 15) rfl) rfl rfl (Or.inr ⟨_, rfl⟩) ?_
        refine jv_iload_n (jv_dk t_X9_isUnder (k := 16) rfl) rfl rfl ?_
        refine jv_callV (en' := jeI) (pv := jpI) (As := [.int (x3)]) (S := []) (jv_dk t_X9_isUnder (k := 17) rfl) (fun _ => rfl) (Or.inl lk_X9_23) me_X9_around mv_X9_around ⟨by decide, by decide⟩ rfl rfl rfl (Nat.le_of_ble_eq_true rfl) (P_X9_around X x0 x3 h) (fun v4 h5 => ?_)
        show jv_O X M_X9_isUnder _ jeI 29 [some (.ref (x0)), none, some (.int (x2)), some (.int (x3)), some (.int (x4))] [.int (v4)] h5 _
        refine jv_istore_n (L' := [some (.ref (x0)), none, some (.int (x2)), some (.int (v4)), some (.int (x4))]) (jv_dk t_X9_isUnder (k := 18) rfl) rfl (Nat.le_of_ble_eq_true rfl) rfl ?_
        refine jv_iinc (v := 1) (L' := [some (.ref (x0)), none, some (.int (x2)), some (.int (v4)), some (.int (x4 + 1))]) (jv_dk t_X9_isUnder (k := 19) rfl) rfl (by decide) rfl ?_
        refine jv_goto (tgt := 5) (jv_dk t_X9_isUnder (k := 20) rfl) rfl ?_
        exact hR5 _ _ _ _ _ 
      · show jv_O _ _ _ _ 22 _ _ _ _
        refine jv_iconst (v := 1) (jv_dk t_X9_isUnder (k := 13) rfl) (by decide) ?_
        exact jv_iret (ty := .boolean) (jv_dk t_X9_isUnder (k := 14) rfl) rfl rfl rfl
def f_X9_isUnder (a0 : Nat) (a1 : Int32) (a2 : Int32) (h : jh) : Option (Int32 × jh) :=
  jlp4 (f_X9_isUnder_h5 (fun  h6 =>
  some (0, h6))) jfu a0 a2 a1 0 h
theorem P_X9_isUnder (X : jx) (a0 : Nat) (a1 : Int32) (a2 : Int32) (h : jh) : jv_P X M_X9_isUnder jeI [.ref (a0), .int (a1), .int (a2)] h (f_X9_isUnder a0 a1 a2 h) := by
  refine jv_P.of (by decide) rfl (by simp [Value.category]) (Nat.le_of_ble_eq_true rfl) ?_
  show jv_O X M_X9_isUnder (h.1, h.2.1) jeI 0 [some (.ref (a0)), some (.int (a1)), some (.int (a2)), none, none] [] h (f_X9_isUnder a0 a1 a2 h)
  unfold f_X9_isUnder
  refine jv_iload_n (jv_dk t_X9_isUnder (k := 0) rfl) rfl rfl ?_
  refine jv_istore_n (L' := [some (.ref (a0)), some (.int (a1)), some (.int (a2)), some (.int (a1)), none]) (jv_dk t_X9_isUnder (k := 1) rfl) rfl (Nat.le_of_ble_eq_true rfl) rfl ?_
  refine jv_iconst (v := 0) (jv_dk t_X9_isUnder (k := 2) rfl) (by decide) ?_
  refine jv_istore (L' := [some (.ref (a0)), some (.int (a1)), some (.int (a2)), some (.int (a1)), some (.int (0))]) (jv_dk t_X9_isUnder (k := 3) rfl) (Nat.le_of_ble_eq_true rfl) rfl ?_
  refine jv_le_row (jv_le_s (jv_le_n (jv_le_s (jv_le_s (jv_le_s (jv_le_nil)))))) ?_
  refine o_f_X9_isUnder_h5 (fun  h6 => ?_) _ _ _ _ _ 
  show jv_O X M_X9_isUnder _ jeI 36 [none, none, none, none, none] [] h6 _
  refine jv_iconst (v := 0) (jv_dk t_X9_isUnder (k := 21) rfl) (by decide) ?_
  exact jv_iret (ty := .boolean) (jv_dk t_X9_isUnder (k := 22) rfl) rfl rfl rfl
def t0_X11_fallOf : List (Nat × Instr × Nat) := [(0, .iload_n 1, 1), (1, .ifCond .ne 5, 3), (4, .iconst 0, 1), (5, .ireturn, 1), (6, .iconst 1, 1), (7, .iload_n 1, 1), (8, .ishl, 1), (9, .istore_n 2, 1), (10, .aload_n 0, 1), (11, .iload_n 1, 1), (12, .invokevirtual 244, 3), (15, .ifCond .eq 65, 3), (18, .iconst 0, 1), (19, .istore_n 3, 1), (20, .iload_n 3, 1), (21, .bipush 16, 2), (23, .if_icmp .ge 57, 3), (26, .aload_n 0, 1), (27, .getfield 12, 3), (30, .iload_n 3, 1), (31, .invokevirtual 76, 3), (34, .ifCond .eq 40, 3), (37, .aload_n 0, 1), (38, .getfield 21, 3), (41, .getfield 52, 3), (44, .aload_n 0, 1), (45, .getfield 12, 3), (48, .getfield 131, 3), (51, .iload_n 3, 1), (52, .iaload, 1), (53, .aload_n 0, 1), (54, .getfield 12, 3), (57, .getfield 131, 3), (60, .iload_n 1, 1), (61, .iaload, 1), (62, .invokevirtual 247, 3), (65, .ifCond .eq 9, 3), (68, .iload_n 2, 1), (69, .iconst 1, 1), (70, .iload_n 3, 1), (71, .ishl, 1), (72, .ior, 1), (73, .istore_n 2, 1), (74, .iinc 3 1, 3), (77, .goto (-57), 3), (80, .iload_n 2, 1), (81, .ireturn, 1)]
theorem t_X11_fallOf : jv_dec cX11_fallOf t0_X11_fallOf = true := by decide +kernel
def M_X11_fallOf : jm := (yX11_fallOf, cX11_fallOf, 4, (some .int), 2, 45, [])
theorem lk_X11_244 : Cond.methodLink RX11 244 M_X11_isInit.1 ∈ lw_tbl := (jv_at 784 (by decide +kernel))
set_option maxRecDepth 20000 in
theorem me_X11_isInit : jv_me M_X11_isInit 1 := ⟨(jv_in3 (List.mem_of_getElem? (i := 147) rfl)), (jv_at 163 (by decide +kernel)), ⟨by decide, by decide⟩, by decide +kernel⟩
theorem lk_X11_76 : jv_lk RX11 76 M_X5_has := Or.inr ⟨"SpaceWarden", (jv_at 587 (by decide +kernel))⟩
set_option maxRecDepth 20000 in
theorem me_X5_has : jv_me M_X5_has 1 := ⟨(jv_in2 (List.mem_of_getElem? (i := 190) rfl)), (jv_at 164 (by decide +kernel)), ⟨by decide, by decide⟩, by decide +kernel⟩
theorem fl_X11_52 : jv_F RX11 52 2 0 RX4 TX4 4 := ⟨rfl, by decide, inX4, Or.inr ⟨"SpaceWarden", (jv_at 285 (by decide +kernel))⟩⟩
theorem lk_X11_247 : jv_lk RX11 247 M_X9_isUnder := Or.inr ⟨"SpaceWarden", (jv_at 788 (by decide +kernel))⟩
set_option maxRecDepth 20000 in
theorem me_X9_isUnder : jv_me M_X9_isUnder 2 := ⟨(jv_in3 (List.mem_of_getElem? (i := 151) rfl)), (jv_at 166 (by decide +kernel)), ⟨by decide, by decide⟩, by decide +kernel⟩
theorem mv_X9_isUnder : jv_mv M_X9_isUnder := ⟨(jv_at 790 (by decide +kernel)), (jv_at 54 (by decide +kernel))⟩
theorem mv_X5_has : jv_mv M_X5_has := ⟨(jv_at 589 (by decide +kernel)), (jv_at 11 (by decide +kernel))⟩
theorem mv_X11_isInit : jv_mv M_X11_isInit := ⟨(jv_at 786 (by decide +kernel)), (jv_at 53 (by decide +kernel))⟩
def f_X11_fallOf_h20 (K20 : Int32 → jh → Option (Int32 × jh)) (R20 : Nat → Int32 → Int32 → Int32 → jh → Option (Int32 × jh)) (x0 : Nat) (x1 : Int32) (x2 : Int32) (x3 : Int32) (h : jh) : Option (Int32 × jh) :=
  (if 16 ≤ x3 then
  K20 x2 h
  else
  gR h x0 9 0 fun v6 =>
  cV h v6 3 (f_X5_has v6 x3 h) fun v7 h8 =>
  (if v7 = 0 then
  R20 x0 x1 x2 (x3 + 1) h8
  else
  gR h8 x0 9 1 fun v10 =>
  gR h8 v10 2 0 fun v11 =>
  gR h8 x0 9 0 fun v12 =>
  gR h8 v12 3 1 fun v13 =>
  aI h8 v13 x3 fun v14 =>
  gR h8 x0 9 0 fun v15 =>
  gR h8 v15 3 1 fun v16 =>
  aI h8 v16 x1 fun v17 =>
  cV h8 v11 7 (f_X9_isUnder v11 v14 v17 h8) fun v18 h19 =>
  (if v18 = 0 then
  R20 x0 x1 x2 (x3 + 1) h19
  else
  R20 x0 x1 (x2 ||| (1 <<< (x3 &&& 31))) (x3 + 1) h19)))
theorem o_f_X11_fallOf_h20 {X : jx} {b0 : Nat × Nat} {K20 : Int32 → jh → Option (Int32 × jh)} (hK20 : ∀ (x2 : Int32) (h : jh), jv_O X M_X11_fallOf b0 jeI 80 [none, none, some (.int (x2)), none] [] h (K20 x2 h)) : ∀ (x0 : Nat) (x1 : Int32) (x2 : Int32) (x3 : Int32) (h : jh), jv_O X M_X11_fallOf b0 jeI 20 [some (.ref (x0)), some (.int (x1)), some (.int (x2)), some (.int (x3))] [] h (jlp4 (f_X11_fallOf_h20 K20) jfu x0 x1 x2 x3 h) := by
  refine jlp4_ok (P := fun x0 x1 x2 x3 h o => jv_O X M_X11_fallOf b0 jeI 20 [some (.ref (x0)), some (.int (x1)), some (.int (x2)), some (.int (x3))] [] h o) (fun R20 hR20 => ?_) (fun _ _ _ _ _  => jv_none rfl) jfu
  intro x0 x1 x2 x3 h
  unfold f_X11_fallOf_h20
  refine jv_iload_n (jv_dk t_X11_fallOf (k := 14) rfl) rfl rfl ?_
  refine jv_bipush (v := 16) (jv_dk t_X11_fallOf (k := 15) rfl) (by decide) ?_
  refine jv_icmp_ge (tgt := 80) (jv_dk t_X11_fallOf (k := 16) rfl) rfl (fun c5 => ?_) (fun c5 => ?_)
  · refine jv_le_row (jv_le_n (jv_le_n (jv_le_s (jv_le_n (jv_le_nil))))) ?_
    exact hK20 _ _ 
  · show jv_O _ _ _ _ 26 _ _ _ _
    refine jv_aload_n (jv_dk t_X11_fallOf (k := 17) rfl) rfl rfl (Or.inr ⟨_, rfl⟩) ?_
    refine jv_gR (jv_dk t_X11_fallOf (k := 18) rfl) fl_X11_12 (fun v6 => ?_)
    refine jv_iload_n (jv_dk t_X11_fallOf (k := 19) rfl) rfl rfl ?_
    refine jv_callV (en' := jeI) (pv := jpI) (As := [.int (x3)]) (S := []) (jv_dk t_X11_fallOf (k := 20) rfl) (fun _ => rfl) lk_X11_76 me_X5_has mv_X5_has ⟨by decide, by decide⟩ rfl rfl rfl (Nat.le_of_ble_eq_true rfl) (P_X5_has X v6 x3 h) (fun v7 h8 => ?_)
    show jv_O X M_X11_fallOf _ jeI 34 [some (.ref (x0)), some (.int (x1)), some (.int (x2)), some (.int (x3))] [.int (v7)] h8 _
    refine jv_if_eq (tgt := 74) (jv_dk t_X11_fallOf (k := 21) rfl) rfl (fun c9 => ?_) (fun c9 => ?_)
    · refine jv_iinc (v := 1) (L' := [some (.ref (x0)), some (.int (x1)), some (.int (x2)), some (.int (x3 + 1))]) (jv_dk t_X11_fallOf (k := 43) rfl) rfl (by decide) rfl ?_
      refine jv_goto (tgt := 20) (jv_dk t_X11_fallOf (k := 44) rfl) rfl ?_
      exact hR20 _ _ _ _ _ 
    · show jv_O _ _ _ _ 37 _ _ _ _
      refine jv_aload_n (jv_dk t_X11_fallOf (k := 22) rfl) rfl rfl (Or.inr ⟨_, rfl⟩) ?_
      refine jv_gR (jv_dk t_X11_fallOf (k := 23) rfl) fl_X11_21 (fun v10 => ?_)
      refine jv_gR (jv_dk t_X11_fallOf (k := 24) rfl) fl_X11_52 (fun v11 => ?_)
      refine jv_aload_n (jv_dk t_X11_fallOf (k := 25) rfl) rfl rfl (Or.inr ⟨_, rfl⟩) ?_
      refine jv_gR (jv_dk t_X11_fallOf (k := 26) rfl) fl_X11_12 (fun v12 => ?_)
      refine jv_gR (jv_dk t_X11_fallOf (k := 27) rfl) fl_X11_131 (fun v13 => ?_)
      refine jv_iload_n (jv_dk t_X11_fallOf (k := 28) rfl) rfl rfl ?_
      refine jv_iaload (jv_dk t_X11_fallOf (k := 29) rfl) (fun v14 => ?_)
      refine jv_aload_n (jv_dk t_X11_fallOf (k := 30) rfl) rfl rfl (Or.inr ⟨_, rfl⟩) ?_
      refine jv_gR (jv_dk t_X11_fallOf (k := 31) rfl) fl_X11_12 (fun v15 => ?_)
      refine jv_gR (jv_dk t_X11_fallOf (k := 32) rfl) fl_X11_131 (fun v16 => ?_)
      refine jv_iload_n (jv_dk t_X11_fallOf (k := 33) rfl) rfl rfl ?_
      refine jv_iaload (jv_dk t_X11_fallOf (k := 34) rfl) (fun v17 => ?_)
      refine jv_callV (en' := jeI) (pv := jpI) (As := [.int (v14), .int (v17)]) (S := []) (jv_dk t_X11_fallOf (k := 35) rfl) (fun _ => rfl) lk_X11_247 me_X9_isUnder mv_X9_isUnder ⟨by decide, by decide⟩ rfl rfl rfl (Nat.le_of_ble_eq_true rfl) (P_X9_isUnder X v11 v14 v17 h8) (fun v18 h19 => ?_)
      show jv_O X M_X11_fallOf _ jeI 65 [some (.ref (x0)), some (.int (x1)), some (.int (x2)), some (.int (x3))] [.int (v18)] h19 _
      refine jv_if_eq (tgt := 74) (jv_dk t_X11_fallOf (k := 36) rfl) rfl (fun c20 => ?_) (fun c20 => ?_)
      · refine jv_iinc (v := 1) (L' := [some (.ref (x0)), some (.int (x1)), some (.int (x2)), some (.int (x3 + 1))]) (jv_dk t_X11_fallOf (k := 43) rfl) rfl (by decide) rfl ?_
        refine jv_goto (tgt := 20) (jv_dk t_X11_fallOf (k := 44) rfl) rfl ?_
        exact hR20 _ _ _ _ _ 
      · show jv_O _ _ _ _ 68 _ _ _ _
        refine jv_iload_n (jv_dk t_X11_fallOf (k := 37) rfl) rfl rfl ?_
        refine jv_iconst (v := 1) (jv_dk t_X11_fallOf (k := 38) rfl) (by decide) ?_
        refine jv_iload_n (jv_dk t_X11_fallOf (k := 39) rfl) rfl rfl ?_
        refine jv_ishl (jv_dk t_X11_fallOf (k := 40) rfl) ?_
        refine jv_ior (jv_dk t_X11_fallOf (k := 41) rfl) ?_
        refine jv_istore_n (L' := [some (.ref (x0)), some (.int (x1)), some (.int (x2 ||| (1 <<< (x3 &&& 31)))), some (.int (x3))]) (jv_dk t_X11_fallOf (k := 42) rfl) rfl (Nat.le_of_ble_eq_true rfl) rfl ?_
        refine jv_iinc (v := 1) (L' := [some (.ref (x0)), some (.int (x1)), some (.int (x2 ||| (1 <<< (x3 &&& 31)))), some (.int (x3 + 1))]) (jv_dk t_X11_fallOf (k := 43) rfl) rfl (by decide) rfl ?_
        refine jv_goto (tgt := 20) (jv_dk t_X11_fallOf (k := 44) rfl) rfl ?_
        exact hR20 _ _ _ _ _ 
def f_X11_fallOf (a0 : Nat) (a1 : Int32) (h : jh) : Option (Int32 × jh) :=
  (if ¬ a1 = 0 then
  cV h a0 9 (f_X11_isInit a0 a1 h) fun v2 h3 =>
  (if v2 = 0 then
  some (1 <<< (a1 &&& 31), h3)
  else
  jlp4 (f_X11_fallOf_h20 (fun y22 h21 =>
  some (y22, h21))) jfu a0 a1 (1 <<< (a1 &&& 31)) 0 h3)
  else
  some (0, h))
theorem P_X11_fallOf (X : jx) (a0 : Nat) (a1 : Int32) (h : jh) : jv_P X M_X11_fallOf jeI [.ref (a0), .int (a1)] h (f_X11_fallOf a0 a1 h) := by
  refine jv_P.of (by decide) rfl (by simp [Value.category]) (Nat.le_of_ble_eq_true rfl) ?_
  show jv_O X M_X11_fallOf (h.1, h.2.1) jeI 0 [some (.ref (a0)), some (.int (a1)), none, none] [] h (f_X11_fallOf a0 a1 h)
  unfold f_X11_fallOf
  refine jv_iload_n (jv_dk t_X11_fallOf (k := 0) rfl) rfl rfl ?_
  refine jv_if_ne (tgt := 6) (jv_dk t_X11_fallOf (k := 1) rfl) rfl (fun c1 => ?_) (fun c1 => ?_)
  · refine jv_iconst (v := 1) (jv_dk t_X11_fallOf (k := 4) rfl) (by decide) ?_
    refine jv_iload_n (jv_dk t_X11_fallOf (k := 5) rfl) rfl rfl ?_
    refine jv_ishl (jv_dk t_X11_fallOf (k := 6) rfl) ?_
    refine jv_istore_n (L' := [some (.ref (a0)), some (.int (a1)), some (.int (1 <<< (a1 &&& 31))), none]) (jv_dk t_X11_fallOf (k := 7) rfl) rfl (Nat.le_of_ble_eq_true rfl) rfl ?_
    refine jv_aload_n (jv_dk t_X11_fallOf (k := 8) rfl) rfl rfl (Or.inr ⟨_, rfl⟩) ?_
    refine jv_iload_n (jv_dk t_X11_fallOf (k := 9) rfl) rfl rfl ?_
    refine jv_callV (en' := jeI) (pv := jpI) (As := [.int (a1)]) (S := []) (jv_dk t_X11_fallOf (k := 10) rfl) (fun _ => rfl) (Or.inl lk_X11_244) me_X11_isInit mv_X11_isInit ⟨by decide, by decide⟩ rfl rfl rfl (Nat.le_of_ble_eq_true rfl) (P_X11_isInit X a0 a1 h) (fun v2 h3 => ?_)
    show jv_O X M_X11_fallOf _ jeI 15 [some (.ref (a0)), some (.int (a1)), some (.int (1 <<< (a1 &&& 31))), none] [.int (v2)] h3 _
    refine jv_if_eq (tgt := 80) (jv_dk t_X11_fallOf (k := 11) rfl) rfl (fun c4 => ?_) (fun c4 => ?_)
    · refine jv_iload_n (jv_dk t_X11_fallOf (k := 45) rfl) rfl rfl ?_
      exact jv_iret (ty := .int) (jv_dk t_X11_fallOf (k := 46) rfl) rfl rfl rfl
    · show jv_O _ _ _ _ 18 _ _ _ _
      refine jv_iconst (v := 0) (jv_dk t_X11_fallOf (k := 12) rfl) (by decide) ?_
      refine jv_istore_n (L' := [some (.ref (a0)), some (.int (a1)), some (.int (1 <<< (a1 &&& 31))), some (.int (0))]) (jv_dk t_X11_fallOf (k := 13) rfl) rfl (Nat.le_of_ble_eq_true rfl) rfl ?_
      refine o_f_X11_fallOf_h20 (fun y22 h21 => ?_) _ _ _ _ _ 
      show jv_O X M_X11_fallOf _ jeI 80 [none, none, some (.int (y22)), none] [] h21 _
      refine jv_iload_n (jv_dk t_X11_fallOf (k := 45) rfl) rfl rfl ?_
      exact jv_iret (ty := .int) (jv_dk t_X11_fallOf (k := 46) rfl) rfl rfl rfl
  · show jv_O _ _ _ _ 4 _ _ _ _
    refine jv_iconst (v := 0) (jv_dk t_X11_fallOf (k := 2) rfl) (by decide) ?_
    exact jv_iret (ty := .int) (jv_dk t_X11_fallOf (k := 3) rfl) rfl rfl rfl
def t0_X9_has : List (Nat × Instr × Nat) := [(0, .iload_n 1, 1), (1, .ifCond .lt 21, 3), (4, .iload_n 1, 1), (5, .aload_n 0, 1), (6, .getfield 15, 3), (9, .if_icmp .ge 13, 3), (12, .iload_n 1, 1), (13, .bipush 8, 2), (15, .if_icmp .ge 7, 3), (18, .iconst 1, 1), (19, .goto 4, 3), (22, .iconst 0, 1), (23, .ireturn, 1)]
theorem t_X9_has : jv_dec cX9_has t0_X9_has = true := by decide +kernel
def M_X9_has : jm := (yX9_has, cX9_has, 2, (some .boolean), 0, 0, [])
def f_X9_has (a0 : Nat) (a1 : Int32) (h : jh) : Option (Int32 × jh) :=
  (if a1 < 0 then
  some (0, h)
  else
  gI h a0 7 1 fun v2 =>
  (if v2 ≤ a1 then
  some (0, h)
  else
  (if 8 ≤ a1 then
  some (0, h)
  else
  some (1, h))))
theorem P_X9_has (X : jx) (a0 : Nat) (a1 : Int32) (h : jh) : jv_P X M_X9_has jeI [.ref (a0), .int (a1)] h (f_X9_has a0 a1 h) := by
  refine jv_P.of (by decide) rfl (by simp [Value.category]) (Nat.le_of_ble_eq_true rfl) ?_
  show jv_O X M_X9_has (h.1, h.2.1) jeI 0 [some (.ref (a0)), some (.int (a1))] [] h (f_X9_has a0 a1 h)
  unfold f_X9_has
  refine jv_iload_n (jv_dk t_X9_has (k := 0) rfl) rfl rfl ?_
  refine jv_if_lt (tgt := 22) (jv_dk t_X9_has (k := 1) rfl) rfl (fun c1 => ?_) (fun c1 => ?_)
  · refine jv_iconst (v := 0) (jv_dk t_X9_has (k := 11) rfl) (by decide) ?_
    exact jv_iret (ty := .boolean) (jv_dk t_X9_has (k := 12) rfl) rfl rfl rfl
  · show jv_O _ _ _ _ 4 _ _ _ _
    refine jv_iload_n (jv_dk t_X9_has (k := 2) rfl) rfl rfl ?_
    refine jv_aload_n (jv_dk t_X9_has (k := 3) rfl) rfl rfl (Or.inr ⟨_, rfl⟩) ?_
    refine jv_gI (jv_dk t_X9_has (k := 4) rfl) fl_X9_15 (fun v2 => ?_)
    refine jv_icmp_ge (tgt := 22) (jv_dk t_X9_has (k := 5) rfl) rfl (fun c3 => ?_) (fun c3 => ?_)
    · refine jv_iconst (v := 0) (jv_dk t_X9_has (k := 11) rfl) (by decide) ?_
      exact jv_iret (ty := .boolean) (jv_dk t_X9_has (k := 12) rfl) rfl rfl rfl
    · show jv_O _ _ _ _ 12 _ _ _ _
      refine jv_iload_n (jv_dk t_X9_has (k := 6) rfl) rfl rfl ?_
      refine jv_bipush (v := 8) (jv_dk t_X9_has (k := 7) rfl) (by decide) ?_
      refine jv_icmp_ge (tgt := 22) (jv_dk t_X9_has (k := 8) rfl) rfl (fun c4 => ?_) (fun c4 => ?_)
      · refine jv_iconst (v := 0) (jv_dk t_X9_has (k := 11) rfl) (by decide) ?_
        exact jv_iret (ty := .boolean) (jv_dk t_X9_has (k := 12) rfl) rfl rfl rfl
      · show jv_O _ _ _ _ 18 _ _ _ _
        refine jv_iconst (v := 1) (jv_dk t_X9_has (k := 9) rfl) (by decide) ?_
        refine jv_goto (tgt := 23) (jv_dk t_X9_has (k := 10) rfl) rfl ?_
        exact jv_iret (ty := .boolean) (jv_dk t_X9_has (k := 12) rfl) rfl rfl rfl
def t0_X5_numberOf : List (Nat × Instr × Nat) := [(0, .aload_n 0, 1), (1, .getfield 30, 3), (4, .iload_n 1, 1), (5, .bipush 8, 2), (7, .imul, 1), (8, .iload_n 2, 1), (9, .iadd, 1), (10, .iaload, 1), (11, .ireturn, 1)]
theorem t_X5_numberOf : jv_dec cX5_numberOf t0_X5_numberOf = true := by decide +kernel
def M_X5_numberOf : jm := (yX5_numberOf, cX5_numberOf, 3, (some .int), 0, 0, [])
theorem fl_X5_30 : jv_F RX5 30 3 6 RX5 TX5 9 := ⟨rfl, by decide, inX5, Or.inl (jv_at 235 (by decide +kernel))⟩
def f_X5_numberOf (a0 : Nat) (a1 : Int32) (a2 : Int32) (h : jh) : Option (Int32 × jh) :=
  gR h a0 3 6 fun v1 =>
  aI h v1 ((a1 * 8) + a2) fun v2 =>
  some (v2, h)
theorem P_X5_numberOf (X : jx) (a0 : Nat) (a1 : Int32) (a2 : Int32) (h : jh) : jv_P X M_X5_numberOf jeI [.ref (a0), .int (a1), .int (a2)] h (f_X5_numberOf a0 a1 a2 h) := by
  refine jv_P.of (by decide) rfl (by simp [Value.category]) (Nat.le_of_ble_eq_true rfl) ?_
  show jv_O X M_X5_numberOf (h.1, h.2.1) jeI 0 [some (.ref (a0)), some (.int (a1)), some (.int (a2))] [] h (f_X5_numberOf a0 a1 a2 h)
  unfold f_X5_numberOf
  refine jv_aload_n (jv_dk t_X5_numberOf (k := 0) rfl) rfl rfl (Or.inr ⟨_, rfl⟩) ?_
  refine jv_gR (jv_dk t_X5_numberOf (k := 1) rfl) fl_X5_30 (fun v1 => ?_)
  refine jv_iload_n (jv_dk t_X5_numberOf (k := 2) rfl) rfl rfl ?_
  refine jv_bipush (v := 8) (jv_dk t_X5_numberOf (k := 3) rfl) (by decide) ?_
  refine jv_imul (jv_dk t_X5_numberOf (k := 4) rfl) ?_
  refine jv_iload_n (jv_dk t_X5_numberOf (k := 5) rfl) rfl rfl ?_
  refine jv_iadd (jv_dk t_X5_numberOf (k := 6) rfl) ?_
  refine jv_iaload (jv_dk t_X5_numberOf (k := 7) rfl) (fun v2 => ?_)
  exact jv_iret (ty := .int) (jv_dk t_X5_numberOf (k := 8) rfl) rfl rfl rfl
def t0_X5_holderOf : List (Nat × Instr × Nat) := [(0, .iconst 0, 1), (1, .istore_n 3, 1), (2, .iload_n 3, 1), (3, .bipush 16, 2), (5, .if_icmp .ge 32, 3), (8, .aload_n 0, 1), (9, .getfield 33, 3), (12, .iload_n 3, 1), (13, .invokestatic 44, 3), (16, .ifCond .eq 15, 3), (19, .aload_n 0, 1), (20, .iload_n 3, 1), (21, .iload_n 1, 1), (22, .invokevirtual 48, 3), (25, .iload_n 2, 1), (26, .if_icmp .ne 5, 3), (29, .iload_n 3, 1), (30, .ireturn, 1), (31, .iinc 3 1, 3), (34, .goto (-32), 3), (37, .iconst (-1), 1), (38, .ireturn, 1)]
theorem t_X5_holderOf : jv_dec cX5_holderOf t0_X5_holderOf = true := by decide +kernel
def M_X5_holderOf : jm := (yX5_holderOf, cX5_holderOf, 4, (some .int), 1, 22, [])
theorem lk_X5_48 : Cond.methodLink RX5 48 M_X5_numberOf.1 ∈ lw_tbl := (jv_at 626 (by decide +kernel))
set_option maxRecDepth 20000 in
theorem me_X5_numberOf : jv_me M_X5_numberOf 2 := ⟨(jv_in2 (List.mem_of_getElem? (i := 229) rfl)), (jv_at 164 (by decide +kernel)), ⟨by decide, by decide⟩, by decide +kernel⟩
theorem mv_X5_numberOf : jv_mv M_X5_numberOf := ⟨(jv_at 628 (by decide +kernel)), (jv_at 18 (by decide +kernel))⟩
def f_X5_holderOf_h2 (K2 : jh → Option (Int32 × jh)) (R2 : Nat → Int32 → Int32 → Int32 → jh → Option (Int32 × jh)) (x0 : Nat) (x1 : Int32) (x2 : Int32) (x3 : Int32) (h : jh) : Option (Int32 × jh) :=
  (if 16 ≤ x3 then
  K2  h
  else
  gI h x0 3 7 fun v2 =>
  bd (f_X12_holds v2 x3 h) fun v3 h4 =>
  (if v3 = 0 then
  R2 x0 x1 x2 (x3 + 1) h4
  else
  cV h4 x0 3 (f_X5_numberOf x0 x3 x1 h4) fun v6 h7 =>
  (if ¬ v6 = x2 then
  R2 x0 x1 x2 (x3 + 1) h7
  else
  some (x3, h7))))
theorem o_f_X5_holderOf_h2 {X : jx} {b0 : Nat × Nat} {K2 : jh → Option (Int32 × jh)} (hK2 : ∀  (h : jh), jv_O X M_X5_holderOf b0 jeI 37 [none, none, none, none] [] h (K2  h)) : ∀ (x0 : Nat) (x1 : Int32) (x2 : Int32) (x3 : Int32) (h : jh), jv_O X M_X5_holderOf b0 jeI 2 [some (.ref (x0)), some (.int (x1)), some (.int (x2)), some (.int (x3))] [] h (jlp4 (f_X5_holderOf_h2 K2) jfu x0 x1 x2 x3 h) := by
  refine jlp4_ok (P := fun x0 x1 x2 x3 h o => jv_O X M_X5_holderOf b0 jeI 2 [some (.ref (x0)), some (.int (x1)), some (.int (x2)), some (.int (x3))] [] h o) (fun R2 hR2 => ?_) (fun _ _ _ _ _  => jv_none rfl) jfu
  intro x0 x1 x2 x3 h
  unfold f_X5_holderOf_h2
  refine jv_iload_n (jv_dk t_X5_holderOf (k := 2) rfl) rfl rfl ?_
  refine jv_bipush (v := 16) (jv_dk t_X5_holderOf (k := 3) rfl) (by decide) ?_
  refine jv_icmp_ge (tgt := 37) (jv_dk t_X5_holderOf (k := 4) rfl) rfl (fun c1 => ?_) (fun c1 => ?_)
  · refine jv_le_row (jv_le_n (jv_le_n (jv_le_n (jv_le_n (jv_le_nil))))) ?_
    exact hK2 _ 
  · show jv_O _ _ _ _ 8 _ _ _ _
    refine jv_aload_n (jv_dk t_X5_holderOf (k := 5) rfl) rfl rfl (Or.inr ⟨_, rfl⟩) ?_
    refine jv_gI (jv_dk t_X5_holderOf (k := 6) rfl) fl_X5_33 (fun v2 => ?_)
    refine jv_iload_n (jv_dk t_X5_holderOf (k := 7) rfl) rfl rfl ?_
    refine jv_callS (en' := jeI) (pv := jpI) (As := [.int (v2), .int (x3)]) (S := []) (jv_dk t_X5_holderOf (k := 8) rfl) (fun _ => rfl) lk_X5_44 me_X12_holds ms_X12_holds ⟨by decide, by decide⟩ rfl rfl (Nat.le_of_ble_eq_true rfl) (P_X12_holds X v2 x3 h) (fun v3 h4 => ?_)
    show jv_O X M_X5_holderOf _ jeI 16 [some (.ref (x0)), some (.int (x1)), some (.int (x2)), some (.int (x3))] [.int (v3)] h4 _
    refine jv_if_eq (tgt := 31) (jv_dk t_X5_holderOf (k := 9) rfl) rfl (fun c5 => ?_) (fun c5 => ?_)
    · refine jv_iinc (v := 1) (L' := [some (.ref (x0)), some (.int (x1)), some (.int (x2)), some (.int (x3 + 1))]) (jv_dk t_X5_holderOf (k := 18) rfl) rfl (by decide) rfl ?_
      refine jv_goto (tgt := 2) (jv_dk t_X5_holderOf (k := 19) rfl) rfl ?_
      exact hR2 _ _ _ _ _ 
    · show jv_O _ _ _ _ 19 _ _ _ _
      refine jv_aload_n (jv_dk t_X5_holderOf (k := 10) rfl) rfl rfl (Or.inr ⟨_, rfl⟩) ?_
      refine jv_iload_n (jv_dk t_X5_holderOf (k := 11) rfl) rfl rfl ?_
      refine jv_iload_n (jv_dk t_X5_holderOf (k := 12) rfl) rfl rfl ?_
      refine jv_callV (en' := jeI) (pv := jpI) (As := [.int (x3), .int (x1)]) (S := []) (jv_dk t_X5_holderOf (k := 13) rfl) (fun _ => rfl) (Or.inl lk_X5_48) me_X5_numberOf mv_X5_numberOf ⟨by decide, by decide⟩ rfl rfl rfl (Nat.le_of_ble_eq_true rfl) (P_X5_numberOf X x0 x3 x1 h4) (fun v6 h7 => ?_)
      show jv_O X M_X5_holderOf _ jeI 25 [some (.ref (x0)), some (.int (x1)), some (.int (x2)), some (.int (x3))] [.int (v6)] h7 _
      refine jv_iload_n (jv_dk t_X5_holderOf (k := 14) rfl) rfl rfl ?_
      refine jv_icmp_ne (tgt := 31) (jv_dk t_X5_holderOf (k := 15) rfl) rfl (fun c8 => ?_) (fun c8 => ?_)
      · refine jv_iinc (v := 1) (L' := [some (.ref (x0)), some (.int (x1)), some (.int (x2)), some (.int (x3 + 1))]) (jv_dk t_X5_holderOf (k := 18) rfl) rfl (by decide) rfl ?_
        refine jv_goto (tgt := 2) (jv_dk t_X5_holderOf (k := 19) rfl) rfl ?_
        exact hR2 _ _ _ _ _ 
      · show jv_O _ _ _ _ 29 _ _ _ _
        refine jv_iload_n (jv_dk t_X5_holderOf (k := 16) rfl) rfl rfl ?_
        exact jv_iret (ty := .int) (jv_dk t_X5_holderOf (k := 17) rfl) rfl rfl rfl
def f_X5_holderOf (a0 : Nat) (a1 : Int32) (a2 : Int32) (h : jh) : Option (Int32 × jh) :=
  jlp4 (f_X5_holderOf_h2 (fun  h9 =>
  some ((-1), h9))) jfu a0 a1 a2 0 h
theorem P_X5_holderOf (X : jx) (a0 : Nat) (a1 : Int32) (a2 : Int32) (h : jh) : jv_P X M_X5_holderOf jeI [.ref (a0), .int (a1), .int (a2)] h (f_X5_holderOf a0 a1 a2 h) := by
  refine jv_P.of (by decide) rfl (by simp [Value.category]) (Nat.le_of_ble_eq_true rfl) ?_
  show jv_O X M_X5_holderOf (h.1, h.2.1) jeI 0 [some (.ref (a0)), some (.int (a1)), some (.int (a2)), none] [] h (f_X5_holderOf a0 a1 a2 h)
  unfold f_X5_holderOf
  refine jv_iconst (v := 0) (jv_dk t_X5_holderOf (k := 0) rfl) (by decide) ?_
  refine jv_istore_n (L' := [some (.ref (a0)), some (.int (a1)), some (.int (a2)), some (.int (0))]) (jv_dk t_X5_holderOf (k := 1) rfl) rfl (Nat.le_of_ble_eq_true rfl) rfl ?_
  refine o_f_X5_holderOf_h2 (fun  h9 => ?_) _ _ _ _ _ 
  show jv_O X M_X5_holderOf _ jeI 37 [none, none, none, none] [] h9 _
  refine jv_iconst (v := (-1)) (jv_dk t_X5_holderOf (k := 20) rfl) (by decide) ?_
  exact jv_iret (ty := .int) (jv_dk t_X5_holderOf (k := 21) rfl) rfl rfl rfl
def t0_X3_wouldBeSo : List (Nat × Instr × Nat) := [(0, .iconst 0, 1), (1, .istore_n 3, 1), (2, .iload_n 3, 1), (3, .aload_n 0, 1), (4, .getfield 21, 3), (7, .if_icmp .ge 97, 3), (10, .iload_n 3, 1), (11, .bipush 8, 2), (13, .if_icmp .ge 91, 3), (16, .aload_n 1, 1), (17, .getfield 53, 3), (20, .getfield 57, 3), (23, .aload_n 0, 1), (24, .getfield 9, 3), (27, .iload_n 3, 1), (28, .iaload, 1), (29, .invokevirtual 63, 3), (32, .ifCond .eq 25, 3), (35, .aload_n 1, 1), (36, .getfield 33, 3), (39, .aload_n 0, 1), (40, .getfield 9, 3), (43, .iload_n 3, 1), (44, .iaload, 1), (45, .aload_n 0, 1), (46, .getfield 15, 3), (49, .iload_n 3, 1), (50, .iaload, 1), (51, .invokevirtual 66, 3), (54, .goto 4, 3), (57, .iconst (-1), 1), (58, .istore 4, 2), (60, .iload 4, 2), (62, .iconst (-1), 1), (63, .if_icmp .eq 16, 3), (66, .iload_n 2, 1), (67, .iload 4, 2), (69, .invokestatic 70, 3), (72, .ifCond .ne 7, 3), (75, .iconst 1, 1), (76, .goto 4, 3), (79, .iconst 0, 1), (80, .istore 5, 2), (82, .iload 5, 2), (84, .invokestatic 29, 3), (87, .aload_n 0, 1), (88, .getfield 18, 3), (91, .iload_n 3, 1), (92, .iaload, 1), (93, .if_icmp .eq 5, 3), (96, .iconst 0, 1), (97, .ireturn, 1), (98, .iinc 3 1, 3), (101, .goto (-99), 3), (104, .iconst 1, 1), (105, .ireturn, 1)]
theorem t_X3_wouldBeSo : jv_dec cX3_wouldBeSo t0_X3_wouldBeSo = true := by decide +kernel
def M_X3_wouldBeSo : jm := (yX3_wouldBeSo, cX3_wouldBeSo, 6, (some .boolean), 2, 45, [])
theorem fl_X3_53 : jv_F RX3 53 9 1 RX11 TX11 4 := ⟨rfl, by decide, inX11, Or.inr ⟨"SpaceWarden", (jv_at 371 (by decide +kernel))⟩⟩
theorem fl_X3_57 : jv_F RX3 57 2 0 RX4 TX4 4 := ⟨rfl, by decide, inX4, Or.inr ⟨"SpaceWarden", (jv_at 286 (by decide +kernel))⟩⟩
theorem lk_X3_63 : jv_lk RX3 63 M_X9_has := Or.inr ⟨"SpaceWarden", (jv_at 908 (by decide +kernel))⟩
set_option maxRecDepth 20000 in
theorem me_X9_has : jv_me M_X9_has 1 := ⟨(jv_in2 (List.mem_of_getElem? (i := 217) rfl)), (jv_at 166 (by decide +kernel)), ⟨by decide, by decide⟩, by decide +kernel⟩
theorem lk_X3_70 : jv_lk RX3 70 M_X12_holds := Or.inr ⟨"SpaceWarden", (jv_at 913 (by decide +kernel))⟩
theorem fl_X3_33 : jv_F RX3 33 9 0 RX11 TX11 4 := ⟨rfl, by decide, inX11, Or.inr ⟨"SpaceWarden", (jv_at 368 (by decide +kernel))⟩⟩
theorem lk_X3_66 : jv_lk RX3 66 M_X5_holderOf := Or.inr ⟨"SpaceWarden", (jv_at 909 (by decide +kernel))⟩
set_option maxRecDepth 20000 in
theorem me_X5_holderOf : jv_me M_X5_holderOf 2 := ⟨(jv_in4 (List.mem_of_getElem? (i := 32) rfl)), (jv_at 164 (by decide +kernel)), ⟨by decide, by decide⟩, by decide +kernel⟩
theorem mv_X5_holderOf : jv_mv M_X5_holderOf := ⟨(jv_at 911 (by decide +kernel)), (jv_at 64 (by decide +kernel))⟩
theorem mv_X9_has : jv_mv M_X9_has := ⟨(jv_at 616 (by decide +kernel)), (jv_at 15 (by decide +kernel))⟩
def f_X3_wouldBeSo_b80 (R2 : Nat → Nat → Int32 → Int32 → jh → Option (Int32 × jh)) (K2 : jh → Option (Int32 × jh)) (x0 : Nat) (x1 : Nat) (x2 : Int32) (x3 : Int32) (s0 : Int32) (h : jh) : Option (Int32 × jh) :=
  bd (f_X12_bit s0 h) fun v12 h13 =>
  gR h13 x0 1 2 fun v14 =>
  aI h13 v14 x3 fun v15 =>
  (if v12 = v15 then
  R2 x0 x1 x2 (x3 + 1) h13
  else
  some (0, h13))
theorem o_f_X3_wouldBeSo_b80 {X : jx} {b0 : Nat × Nat} {R2 : Nat → Nat → Int32 → Int32 → jh → Option (Int32 × jh)} {K2 : jh → Option (Int32 × jh)} (hR2 : ∀ (x0 : Nat) (x1 : Nat) (x2 : Int32) (x3 : Int32) (h : jh), jv_O X M_X3_wouldBeSo b0 jeI 2 [some (.ref (x0)), some (.ref (x1)), some (.int (x2)), some (.int (x3)), none, none] [] h (R2 x0 x1 x2 x3 h)) (hK2 : ∀  (h : jh), jv_O X M_X3_wouldBeSo b0 jeI 104 [none, none, none, none, none, none] [] h (K2  h)) (x0 : Nat) (x1 : Nat) (x2 : Int32) (x3 : Int32) (s0 : Int32) (h : jh) : jv_O X M_X3_wouldBeSo b0 jeI 80 [some (.ref (x0)), some (.ref (x1)), some (.int (x2)), some (.int (x3)), none, none] [.int (s0)] h (f_X3_wouldBeSo_b80 R2 K2 x0 x1 x2 x3 s0 h) := by
  unfold f_X3_wouldBeSo_b80
  refine jv_istore (L' := [some (.ref (x0)), some (.ref (x1)), some (.int (x2)), some (.int (x3)), none, some (.int (s0))]) (jv_dk t_X3_wouldBeSo (k := 42) rfl) (Nat.le_of_ble_eq_true rfl) rfl ?_
  refine jv_iload (jv_dk t_X3_wouldBeSo (k := 43) rfl) rfl ?_
  refine jv_callS (en' := jeI) (pv := jpI) (As := [.int (s0)]) (S := []) (jv_dk t_X3_wouldBeSo (k := 44) rfl) (fun _ => rfl) lk_X3_29 me_X12_bit ms_X12_bit ⟨by decide, by decide⟩ rfl rfl (Nat.le_of_ble_eq_true rfl) (P_X12_bit X s0 h) (fun v12 h13 => ?_)
  show jv_O X M_X3_wouldBeSo _ jeI 87 [some (.ref (x0)), some (.ref (x1)), some (.int (x2)), some (.int (x3)), none, some (.int (s0))] [.int (v12)] h13 _
  refine jv_aload_n (jv_dk t_X3_wouldBeSo (k := 45) rfl) rfl rfl (Or.inr ⟨_, rfl⟩) ?_
  refine jv_gR (jv_dk t_X3_wouldBeSo (k := 46) rfl) fl_X3_18 (fun v14 => ?_)
  refine jv_iload_n (jv_dk t_X3_wouldBeSo (k := 47) rfl) rfl rfl ?_
  refine jv_iaload (jv_dk t_X3_wouldBeSo (k := 48) rfl) (fun v15 => ?_)
  refine jv_icmp_eq (tgt := 98) (jv_dk t_X3_wouldBeSo (k := 49) rfl) rfl (fun c16 => ?_) (fun c16 => ?_)
  · refine jv_iinc (v := 1) (L' := [some (.ref (x0)), some (.ref (x1)), some (.int (x2)), some (.int (x3 + 1)), none, some (.int (s0))]) (jv_dk t_X3_wouldBeSo (k := 52) rfl) rfl (by decide) rfl ?_
    refine jv_goto (tgt := 2) (jv_dk t_X3_wouldBeSo (k := 53) rfl) rfl ?_
    refine jv_le_row (jv_le_s (jv_le_s (jv_le_s (jv_le_s (jv_le_n (jv_le_n (jv_le_nil))))))) ?_
    exact hR2 _ _ _ _ _ 
  · show jv_O _ _ _ _ 96 _ _ _ _
    refine jv_iconst (v := 0) (jv_dk t_X3_wouldBeSo (k := 50) rfl) (by decide) ?_
    exact jv_iret (ty := .boolean) (jv_dk t_X3_wouldBeSo (k := 51) rfl) rfl rfl rfl
def f_X3_wouldBeSo_b58 (R2 : Nat → Nat → Int32 → Int32 → jh → Option (Int32 × jh)) (K2 : jh → Option (Int32 × jh)) (x0 : Nat) (x1 : Nat) (x2 : Int32) (x3 : Int32) (s0 : Int32) (h : jh) : Option (Int32 × jh) :=
  (if s0 = (-1) then
  f_X3_wouldBeSo_b80 R2 K2 x0 x1 x2 x3 0 h
  else
  bd (f_X12_holds x2 s0 h) fun v17 h18 =>
  (if ¬ v17 = 0 then
  f_X3_wouldBeSo_b80 R2 K2 x0 x1 x2 x3 0 h18
  else
  f_X3_wouldBeSo_b80 R2 K2 x0 x1 x2 x3 1 h18))
theorem o_f_X3_wouldBeSo_b58 {X : jx} {b0 : Nat × Nat} {R2 : Nat → Nat → Int32 → Int32 → jh → Option (Int32 × jh)} {K2 : jh → Option (Int32 × jh)} (hR2 : ∀ (x0 : Nat) (x1 : Nat) (x2 : Int32) (x3 : Int32) (h : jh), jv_O X M_X3_wouldBeSo b0 jeI 2 [some (.ref (x0)), some (.ref (x1)), some (.int (x2)), some (.int (x3)), none, none] [] h (R2 x0 x1 x2 x3 h)) (hK2 : ∀  (h : jh), jv_O X M_X3_wouldBeSo b0 jeI 104 [none, none, none, none, none, none] [] h (K2  h)) (x0 : Nat) (x1 : Nat) (x2 : Int32) (x3 : Int32) (s0 : Int32) (h : jh) : jv_O X M_X3_wouldBeSo b0 jeI 58 [some (.ref (x0)), some (.ref (x1)), some (.int (x2)), some (.int (x3)), none, none] [.int (s0)] h (f_X3_wouldBeSo_b58 R2 K2 x0 x1 x2 x3 s0 h) := by
  unfold f_X3_wouldBeSo_b58
  refine jv_istore (L' := [some (.ref (x0)), some (.ref (x1)), some (.int (x2)), some (.int (x3)), some (.int (s0)), none]) (jv_dk t_X3_wouldBeSo (k := 31) rfl) (Nat.le_of_ble_eq_true rfl) rfl ?_
  refine jv_iload (jv_dk t_X3_wouldBeSo (k := 32) rfl) rfl ?_
  refine jv_iconst (v := (-1)) (jv_dk t_X3_wouldBeSo (k := 33) rfl) (by decide) ?_
  refine jv_icmp_eq (tgt := 79) (jv_dk t_X3_wouldBeSo (k := 34) rfl) rfl (fun c11 => ?_) (fun c11 => ?_)
  · refine jv_iconst (v := 0) (jv_dk t_X3_wouldBeSo (k := 41) rfl) (by decide) ?_
    refine jv_le_row (jv_le_s (jv_le_s (jv_le_s (jv_le_s (jv_le_n (jv_le_n (jv_le_nil))))))) ?_
    exact o_f_X3_wouldBeSo_b80 hR2 hK2 _ _ _ _ _ _ 
  · show jv_O _ _ _ _ 66 _ _ _ _
    refine jv_iload_n (jv_dk t_X3_wouldBeSo (k := 35) rfl) rfl rfl ?_
    refine jv_iload (jv_dk t_X3_wouldBeSo (k := 36) rfl) rfl ?_
    refine jv_callS (en' := jeI) (pv := jpI) (As := [.int (x2), .int (s0)]) (S := []) (jv_dk t_X3_wouldBeSo (k := 37) rfl) (fun _ => rfl) lk_X3_70 me_X12_holds ms_X12_holds ⟨by decide, by decide⟩ rfl rfl (Nat.le_of_ble_eq_true rfl) (P_X12_holds X x2 s0 h) (fun v17 h18 => ?_)
    show jv_O X M_X3_wouldBeSo _ jeI 72 [some (.ref (x0)), some (.ref (x1)), some (.int (x2)), some (.int (x3)), some (.int (s0)), none] [.int (v17)] h18 _
    refine jv_if_ne (tgt := 79) (jv_dk t_X3_wouldBeSo (k := 38) rfl) rfl (fun c19 => ?_) (fun c19 => ?_)
    · refine jv_iconst (v := 0) (jv_dk t_X3_wouldBeSo (k := 41) rfl) (by decide) ?_
      refine jv_le_row (jv_le_s (jv_le_s (jv_le_s (jv_le_s (jv_le_n (jv_le_n (jv_le_nil))))))) ?_
      exact o_f_X3_wouldBeSo_b80 hR2 hK2 _ _ _ _ _ _ 
    · show jv_O _ _ _ _ 75 _ _ _ _
      refine jv_iconst (v := 1) (jv_dk t_X3_wouldBeSo (k := 39) rfl) (by decide) ?_
      refine jv_goto (tgt := 80) (jv_dk t_X3_wouldBeSo (k := 40) rfl) rfl ?_
      refine jv_le_row (jv_le_s (jv_le_s (jv_le_s (jv_le_s (jv_le_n (jv_le_n (jv_le_nil))))))) ?_
      exact o_f_X3_wouldBeSo_b80 hR2 hK2 _ _ _ _ _ _ 
def f_X3_wouldBeSo_h2 (K2 : jh → Option (Int32 × jh)) (R2 : Nat → Nat → Int32 → Int32 → jh → Option (Int32 × jh)) (x0 : Nat) (x1 : Nat) (x2 : Int32) (x3 : Int32) (h : jh) : Option (Int32 × jh) :=
  gI h x0 1 3 fun v1 =>
  (if v1 ≤ x3 then
  K2  h
  else
  (if 8 ≤ x3 then
  K2  h
  else
  gR h x1 9 1 fun v4 =>
  gR h v4 2 0 fun v5 =>
  gR h x0 1 0 fun v6 =>
  aI h v6 x3 fun v7 =>
  cV h v5 7 (f_X9_has v5 v7 h) fun v8 h9 =>
  (if v8 = 0 then
  f_X3_wouldBeSo_b58 R2 K2 x0 x1 x2 x3 (-1) h9
  else
  gR h9 x1 9 0 fun v20 =>
  gR h9 x0 1 0 fun v21 =>
  aI h9 v21 x3 fun v22 =>
  gR h9 x0 1 1 fun v23 =>
  aI h9 v23 x3 fun v24 =>
  cV h9 v20 3 (f_X5_holderOf v20 v22 v24 h9) fun v25 h26 =>
  f_X3_wouldBeSo_b58 R2 K2 x0 x1 x2 x3 v25 h26)))
theorem o_f_X3_wouldBeSo_h2 {X : jx} {b0 : Nat × Nat} {K2 : jh → Option (Int32 × jh)} (hK2 : ∀  (h : jh), jv_O X M_X3_wouldBeSo b0 jeI 104 [none, none, none, none, none, none] [] h (K2  h)) : ∀ (x0 : Nat) (x1 : Nat) (x2 : Int32) (x3 : Int32) (h : jh), jv_O X M_X3_wouldBeSo b0 jeI 2 [some (.ref (x0)), some (.ref (x1)), some (.int (x2)), some (.int (x3)), none, none] [] h (jlp4 (f_X3_wouldBeSo_h2 K2) jfu x0 x1 x2 x3 h) := by
  refine jlp4_ok (P := fun x0 x1 x2 x3 h o => jv_O X M_X3_wouldBeSo b0 jeI 2 [some (.ref (x0)), some (.ref (x1)), some (.int (x2)), some (.int (x3)), none, none] [] h o) (fun R2 hR2 => ?_) (fun _ _ _ _ _  => jv_none rfl) jfu
  intro x0 x1 x2 x3 h
  unfold f_X3_wouldBeSo_h2
  refine jv_iload_n (jv_dk t_X3_wouldBeSo (k := 2) rfl) rfl rfl ?_
  refine jv_aload_n (jv_dk t_X3_wouldBeSo (k := 3) rfl) rfl rfl (Or.inr ⟨_, rfl⟩) ?_
  refine jv_gI (jv_dk t_X3_wouldBeSo (k := 4) rfl) fl_X3_21 (fun v1 => ?_)
  refine jv_icmp_ge (tgt := 104) (jv_dk t_X3_wouldBeSo (k := 5) rfl) rfl (fun c2 => ?_) (fun c2 => ?_)
  · refine jv_le_row (jv_le_n (jv_le_n (jv_le_n (jv_le_n (jv_le_n (jv_le_n (jv_le_nil))))))) ?_
    exact hK2 _ 
  · show jv_O _ _ _ _ 10 _ _ _ _
    refine jv_iload_n (jv_dk t_X3_wouldBeSo (k := 6) rfl) rfl rfl ?_
    refine jv_bipush (v := 8) (jv_dk t_X3_wouldBeSo (k := 7) rfl) (by decide) ?_
    refine jv_icmp_ge (tgt := 104) (jv_dk t_X3_wouldBeSo (k := 8) rfl) rfl (fun c3 => ?_) (fun c3 => ?_)
    · refine jv_le_row (jv_le_n (jv_le_n (jv_le_n (jv_le_n (jv_le_n (jv_le_n (jv_le_nil))))))) ?_
      exact hK2 _ 
    · show jv_O _ _ _ _ 16 _ _ _ _
      refine jv_aload_n (jv_dk t_X3_wouldBeSo (k := 9) rfl) rfl rfl (Or.inr ⟨_, rfl⟩) ?_
      refine jv_gR (jv_dk t_X3_wouldBeSo (k := 10) rfl) fl_X3_53 (fun v4 => ?_)
      refine jv_gR (jv_dk t_X3_wouldBeSo (k := 11) rfl) fl_X3_57 (fun v5 => ?_)
      refine jv_aload_n (jv_dk t_X3_wouldBeSo (k := 12) rfl) rfl rfl (Or.inr ⟨_, rfl⟩) ?_
      refine jv_gR (jv_dk t_X3_wouldBeSo (k := 13) rfl) fl_X3_9 (fun v6 => ?_)
      refine jv_iload_n (jv_dk t_X3_wouldBeSo (k := 14) rfl) rfl rfl ?_
      refine jv_iaload (jv_dk t_X3_wouldBeSo (k := 15) rfl) (fun v7 => ?_)
      refine jv_callV (en' := jeI) (pv := jpI) (As := [.int (v7)]) (S := []) (jv_dk t_X3_wouldBeSo (k := 16) rfl) (fun _ => rfl) lk_X3_63 me_X9_has mv_X9_has ⟨by decide, by decide⟩ rfl rfl rfl (Nat.le_of_ble_eq_true rfl) (P_X9_has X v5 v7 h) (fun v8 h9 => ?_)
      show jv_O X M_X3_wouldBeSo _ jeI 32 [some (.ref (x0)), some (.ref (x1)), some (.int (x2)), some (.int (x3)), none, none] [.int (v8)] h9 _
      refine jv_if_eq (tgt := 57) (jv_dk t_X3_wouldBeSo (k := 17) rfl) rfl (fun c10 => ?_) (fun c10 => ?_)
      · refine jv_iconst (v := (-1)) (jv_dk t_X3_wouldBeSo (k := 30) rfl) (by decide) ?_
        exact o_f_X3_wouldBeSo_b58 hR2 hK2 _ _ _ _ _ _ 
      · show jv_O _ _ _ _ 35 _ _ _ _
        refine jv_aload_n (jv_dk t_X3_wouldBeSo (k := 18) rfl) rfl rfl (Or.inr ⟨_, rfl⟩) ?_
        refine jv_gR (jv_dk t_X3_wouldBeSo (k := 19) rfl) fl_X3_33 (fun v20 => ?_)
        refine jv_aload_n (jv_dk t_X3_wouldBeSo (k := 20) rfl) rfl rfl (Or.inr ⟨_, rfl⟩) ?_
        refine jv_gR (jv_dk t_X3_wouldBeSo (k := 21) rfl) fl_X3_9 (fun v21 => ?_)
        refine jv_iload_n (jv_dk t_X3_wouldBeSo (k := 22) rfl) rfl rfl ?_
        refine jv_iaload (jv_dk t_X3_wouldBeSo (k := 23) rfl) (fun v22 => ?_)
        refine jv_aload_n (jv_dk t_X3_wouldBeSo (k := 24) rfl) rfl rfl (Or.inr ⟨_, rfl⟩) ?_
        refine jv_gR (jv_dk t_X3_wouldBeSo (k := 25) rfl) fl_X3_15 (fun v23 => ?_)
        refine jv_iload_n (jv_dk t_X3_wouldBeSo (k := 26) rfl) rfl rfl ?_
        refine jv_iaload (jv_dk t_X3_wouldBeSo (k := 27) rfl) (fun v24 => ?_)
        refine jv_callV (en' := jeI) (pv := jpI) (As := [.int (v22), .int (v24)]) (S := []) (jv_dk t_X3_wouldBeSo (k := 28) rfl) (fun _ => rfl) lk_X3_66 me_X5_holderOf mv_X5_holderOf ⟨by decide, by decide⟩ rfl rfl rfl (Nat.le_of_ble_eq_true rfl) (P_X5_holderOf X v20 v22 v24 h9) (fun v25 h26 => ?_)
        show jv_O X M_X3_wouldBeSo _ jeI 54 [some (.ref (x0)), some (.ref (x1)), some (.int (x2)), some (.int (x3)), none, none] [.int (v25)] h26 _
        refine jv_goto (tgt := 58) (jv_dk t_X3_wouldBeSo (k := 29) rfl) rfl ?_
        exact o_f_X3_wouldBeSo_b58 hR2 hK2 _ _ _ _ _ _ 
def f_X3_wouldBeSo (a0 : Nat) (a1 : Nat) (a2 : Int32) (h : jh) : Option (Int32 × jh) :=
  jlp4 (f_X3_wouldBeSo_h2 (fun  h27 =>
  some (1, h27))) jfu a0 a1 a2 0 h
theorem P_X3_wouldBeSo (X : jx) (a0 : Nat) (a1 : Nat) (a2 : Int32) (h : jh) : jv_P X M_X3_wouldBeSo jeI [.ref (a0), .ref (a1), .int (a2)] h (f_X3_wouldBeSo a0 a1 a2 h) := by
  refine jv_P.of (by decide) rfl (by simp [Value.category]) (Nat.le_of_ble_eq_true rfl) ?_
  show jv_O X M_X3_wouldBeSo (h.1, h.2.1) jeI 0 [some (.ref (a0)), some (.ref (a1)), some (.int (a2)), none, none, none] [] h (f_X3_wouldBeSo a0 a1 a2 h)
  unfold f_X3_wouldBeSo
  refine jv_iconst (v := 0) (jv_dk t_X3_wouldBeSo (k := 0) rfl) (by decide) ?_
  refine jv_istore_n (L' := [some (.ref (a0)), some (.ref (a1)), some (.int (a2)), some (.int (0)), none, none]) (jv_dk t_X3_wouldBeSo (k := 1) rfl) rfl (Nat.le_of_ble_eq_true rfl) rfl ?_
  refine o_f_X3_wouldBeSo_h2 (fun  h27 => ?_) _ _ _ _ _ 
  show jv_O X M_X3_wouldBeSo _ jeI 104 [none, none, none, none, none, none] [] h27 _
  refine jv_iconst (v := 1) (jv_dk t_X3_wouldBeSo (k := 54) rfl) (by decide) ?_
  exact jv_iret (ty := .boolean) (jv_dk t_X3_wouldBeSo (k := 55) rfl) rfl rfl rfl
def t0_X3_fitting : List (Nat × Instr × Nat) := [(0, .iconst 0, 1), (1, .istore_n 2, 1), (2, .iconst 1, 1), (3, .istore_n 3, 1), (4, .iload_n 3, 1), (5, .bipush 16, 2), (7, .if_icmp .ge 39, 3), (10, .aload_n 1, 1), (11, .getfield 33, 3), (14, .iload_n 3, 1), (15, .invokevirtual 39, 3), (18, .ifCond .eq 22, 3), (21, .aload_n 0, 1), (22, .aload_n 1, 1), (23, .aload_n 1, 1), (24, .iload_n 3, 1), (25, .invokevirtual 45, 3), (28, .invokevirtual 49, 3), (31, .ifCond .eq 9, 3), (34, .iload_n 2, 1), (35, .iconst 1, 1), (36, .iload_n 3, 1), (37, .ishl, 1), (38, .ior, 1), (39, .istore_n 2, 1), (40, .iinc 3 1, 3), (43, .goto (-39), 3), (46, .iload_n 2, 1), (47, .ireturn, 1)]
theorem t_X3_fitting : jv_dec cX3_fitting t0_X3_fitting = true := by decide +kernel
def M_X3_fitting : jm := (yX3_fitting, cX3_fitting, 4, (some .int), 3, 70, [])
theorem lk_X3_39 : jv_lk RX3 39 M_X5_has := Or.inr ⟨"SpaceWarden", (jv_at 902 (by decide +kernel))⟩
theorem lk_X3_45 : jv_lk RX3 45 M_X11_fallOf := Or.inr ⟨"SpaceWarden", (jv_at 903 (by decide +kernel))⟩
set_option maxRecDepth 20000 in
theorem me_X11_fallOf : jv_me M_X11_fallOf 1 := ⟨(jv_in3 (List.mem_of_getElem? (i := 143) rfl)), (jv_at 163 (by decide +kernel)), ⟨by decide, by decide⟩, by decide +kernel⟩
theorem lk_X3_49 : Cond.methodLink RX3 49 M_X3_wouldBeSo.1 ∈ lw_tbl := (jv_at 904 (by decide +kernel))
set_option maxRecDepth 20000 in
theorem me_X3_wouldBeSo : jv_me M_X3_wouldBeSo 2 := ⟨(jv_in4 (List.mem_of_getElem? (i := 27) rfl)), (jv_at 169 (by decide +kernel)), ⟨by decide, by decide⟩, by decide +kernel⟩
theorem mv_X3_wouldBeSo : jv_mv M_X3_wouldBeSo := ⟨(jv_at 906 (by decide +kernel)), (jv_at 63 (by decide +kernel))⟩
theorem mv_X11_fallOf : jv_mv M_X11_fallOf := ⟨(jv_at 782 (by decide +kernel)), (jv_at 52 (by decide +kernel))⟩
def f_X3_fitting_h4 (K4 : Int32 → jh → Option (Int32 × jh)) (R4 : Nat → Nat → Int32 → Int32 → jh → Option (Int32 × jh)) (x0 : Nat) (x1 : Nat) (x2 : Int32) (x3 : Int32) (h : jh) : Option (Int32 × jh) :=
  (if 16 ≤ x3 then
  K4 x2 h
  else
  gR h x1 9 0 fun v2 =>
  cV h v2 3 (f_X5_has v2 x3 h) fun v3 h4 =>
  (if v3 = 0 then
  R4 x0 x1 x2 (x3 + 1) h4
  else
  cV h4 x1 9 (f_X11_fallOf x1 x3 h4) fun v6 h7 =>
  cV h7 x0 1 (f_X3_wouldBeSo x0 x1 v6 h7) fun v8 h9 =>
  (if v8 = 0 then
  R4 x0 x1 x2 (x3 + 1) h9
  else
  R4 x0 x1 (x2 ||| (1 <<< (x3 &&& 31))) (x3 + 1) h9)))
theorem o_f_X3_fitting_h4 {X : jx} {b0 : Nat × Nat} {K4 : Int32 → jh → Option (Int32 × jh)} (hK4 : ∀ (x2 : Int32) (h : jh), jv_O X M_X3_fitting b0 jeI 46 [none, none, some (.int (x2)), none] [] h (K4 x2 h)) : ∀ (x0 : Nat) (x1 : Nat) (x2 : Int32) (x3 : Int32) (h : jh), jv_O X M_X3_fitting b0 jeI 4 [some (.ref (x0)), some (.ref (x1)), some (.int (x2)), some (.int (x3))] [] h (jlp4 (f_X3_fitting_h4 K4) jfu x0 x1 x2 x3 h) := by
  refine jlp4_ok (P := fun x0 x1 x2 x3 h o => jv_O X M_X3_fitting b0 jeI 4 [some (.ref (x0)), some (.ref (x1)), some (.int (x2)), some (.int (x3))] [] h o) (fun R4 hR4 => ?_) (fun _ _ _ _ _  => jv_none rfl) jfu
  intro x0 x1 x2 x3 h
  unfold f_X3_fitting_h4
  refine jv_iload_n (jv_dk t_X3_fitting (k := 4) rfl) rfl rfl ?_
  refine jv_bipush (v := 16) (jv_dk t_X3_fitting (k := 5) rfl) (by decide) ?_
  refine jv_icmp_ge (tgt := 46) (jv_dk t_X3_fitting (k := 6) rfl) rfl (fun c1 => ?_) (fun c1 => ?_)
  · refine jv_le_row (jv_le_n (jv_le_n (jv_le_s (jv_le_n (jv_le_nil))))) ?_
    exact hK4 _ _ 
  · show jv_O _ _ _ _ 10 _ _ _ _
    refine jv_aload_n (jv_dk t_X3_fitting (k := 7) rfl) rfl rfl (Or.inr ⟨_, rfl⟩) ?_
    refine jv_gR (jv_dk t_X3_fitting (k := 8) rfl) fl_X3_33 (fun v2 => ?_)
    refine jv_iload_n (jv_dk t_X3_fitting (k := 9) rfl) rfl rfl ?_
    refine jv_callV (en' := jeI) (pv := jpI) (As := [.int (x3)]) (S := []) (jv_dk t_X3_fitting (k := 10) rfl) (fun _ => rfl) lk_X3_39 me_X5_has mv_X5_has ⟨by decide, by decide⟩ rfl rfl rfl (Nat.le_of_ble_eq_true rfl) (P_X5_has X v2 x3 h) (fun v3 h4 => ?_)
    show jv_O X M_X3_fitting _ jeI 18 [some (.ref (x0)), some (.ref (x1)), some (.int (x2)), some (.int (x3))] [.int (v3)] h4 _
    refine jv_if_eq (tgt := 40) (jv_dk t_X3_fitting (k := 11) rfl) rfl (fun c5 => ?_) (fun c5 => ?_)
    · refine jv_iinc (v := 1) (L' := [some (.ref (x0)), some (.ref (x1)), some (.int (x2)), some (.int (x3 + 1))]) (jv_dk t_X3_fitting (k := 25) rfl) rfl (by decide) rfl ?_
      refine jv_goto (tgt := 4) (jv_dk t_X3_fitting (k := 26) rfl) rfl ?_
      exact hR4 _ _ _ _ _ 
    · show jv_O _ _ _ _ 21 _ _ _ _
      refine jv_aload_n (jv_dk t_X3_fitting (k := 12) rfl) rfl rfl (Or.inr ⟨_, rfl⟩) ?_
      refine jv_aload_n (jv_dk t_X3_fitting (k := 13) rfl) rfl rfl (Or.inr ⟨_, rfl⟩) ?_
      refine jv_aload_n (jv_dk t_X3_fitting (k := 14) rfl) rfl rfl (Or.inr ⟨_, rfl⟩) ?_
      refine jv_iload_n (jv_dk t_X3_fitting (k := 15) rfl) rfl rfl ?_
      refine jv_callV (en' := jeI) (pv := jpI) (As := [.int (x3)]) (S := [.ref (x1), .ref (x0)]) (jv_dk t_X3_fitting (k := 16) rfl) (fun _ => rfl) lk_X3_45 me_X11_fallOf mv_X11_fallOf ⟨by decide, by decide⟩ rfl rfl rfl (Nat.le_of_ble_eq_true rfl) (P_X11_fallOf X x1 x3 h4) (fun v6 h7 => ?_)
      show jv_O X M_X3_fitting _ jeI 28 [some (.ref (x0)), some (.ref (x1)), some (.int (x2)), some (.int (x3))] [.int (v6), .ref (x1), .ref (x0)] h7 _
      refine jv_callV (en' := jeI) (pv := jpI) (As := [.ref (x1), .int (v6)]) (S := []) (jv_dk t_X3_fitting (k := 17) rfl) (fun _ => rfl) (Or.inl lk_X3_49) me_X3_wouldBeSo mv_X3_wouldBeSo ⟨by decide, by decide⟩ rfl rfl rfl (Nat.le_of_ble_eq_true rfl) (P_X3_wouldBeSo X x0 x1 v6 h7) (fun v8 h9 => ?_)
      show jv_O X M_X3_fitting _ jeI 31 [some (.ref (x0)), some (.ref (x1)), some (.int (x2)), some (.int (x3))] [.int (v8)] h9 _
      refine jv_if_eq (tgt := 40) (jv_dk t_X3_fitting (k := 18) rfl) rfl (fun c10 => ?_) (fun c10 => ?_)
      · refine jv_iinc (v := 1) (L' := [some (.ref (x0)), some (.ref (x1)), some (.int (x2)), some (.int (x3 + 1))]) (jv_dk t_X3_fitting (k := 25) rfl) rfl (by decide) rfl ?_
        refine jv_goto (tgt := 4) (jv_dk t_X3_fitting (k := 26) rfl) rfl ?_
        exact hR4 _ _ _ _ _ 
      · show jv_O _ _ _ _ 34 _ _ _ _
        refine jv_iload_n (jv_dk t_X3_fitting (k := 19) rfl) rfl rfl ?_
        refine jv_iconst (v := 1) (jv_dk t_X3_fitting (k := 20) rfl) (by decide) ?_
        refine jv_iload_n (jv_dk t_X3_fitting (k := 21) rfl) rfl rfl ?_
        refine jv_ishl (jv_dk t_X3_fitting (k := 22) rfl) ?_
        refine jv_ior (jv_dk t_X3_fitting (k := 23) rfl) ?_
        refine jv_istore_n (L' := [some (.ref (x0)), some (.ref (x1)), some (.int (x2 ||| (1 <<< (x3 &&& 31)))), some (.int (x3))]) (jv_dk t_X3_fitting (k := 24) rfl) rfl (Nat.le_of_ble_eq_true rfl) rfl ?_
        refine jv_iinc (v := 1) (L' := [some (.ref (x0)), some (.ref (x1)), some (.int (x2 ||| (1 <<< (x3 &&& 31)))), some (.int (x3 + 1))]) (jv_dk t_X3_fitting (k := 25) rfl) rfl (by decide) rfl ?_
        refine jv_goto (tgt := 4) (jv_dk t_X3_fitting (k := 26) rfl) rfl ?_
        exact hR4 _ _ _ _ _ 
def f_X3_fitting (a0 : Nat) (a1 : Nat) (h : jh) : Option (Int32 × jh) :=
  jlp4 (f_X3_fitting_h4 (fun y12 h11 =>
  some (y12, h11))) jfu a0 a1 0 1 h
theorem P_X3_fitting (X : jx) (a0 : Nat) (a1 : Nat) (h : jh) : jv_P X M_X3_fitting jeI [.ref (a0), .ref (a1)] h (f_X3_fitting a0 a1 h) := by
  refine jv_P.of (by decide) rfl (by simp [Value.category]) (Nat.le_of_ble_eq_true rfl) ?_
  show jv_O X M_X3_fitting (h.1, h.2.1) jeI 0 [some (.ref (a0)), some (.ref (a1)), none, none] [] h (f_X3_fitting a0 a1 h)
  unfold f_X3_fitting
  refine jv_iconst (v := 0) (jv_dk t_X3_fitting (k := 0) rfl) (by decide) ?_
  refine jv_istore_n (L' := [some (.ref (a0)), some (.ref (a1)), some (.int (0)), none]) (jv_dk t_X3_fitting (k := 1) rfl) rfl (Nat.le_of_ble_eq_true rfl) rfl ?_
  refine jv_iconst (v := 1) (jv_dk t_X3_fitting (k := 2) rfl) (by decide) ?_
  refine jv_istore_n (L' := [some (.ref (a0)), some (.ref (a1)), some (.int (0)), some (.int (1))]) (jv_dk t_X3_fitting (k := 3) rfl) rfl (Nat.le_of_ble_eq_true rfl) rfl ?_
  refine o_f_X3_fitting_h4 (fun y12 h11 => ?_) _ _ _ _ _ 
  show jv_O X M_X3_fitting _ jeI 46 [none, none, some (.int (y12)), none] [] h11 _
  refine jv_iload_n (jv_dk t_X3_fitting (k := 27) rfl) rfl rfl ?_
  exact jv_iret (ty := .int) (jv_dk t_X3_fitting (k := 28) rfl) rfl rfl rfl
