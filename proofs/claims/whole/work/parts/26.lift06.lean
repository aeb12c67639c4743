def t0_X11_copy : List (Nat × Instr × Nat) := [(0, .aload_n 0, 1), (1, .getfield 12, 3), (4, .aload_n 1, 1), (5, .getfield 12, 3), (8, .invokevirtual 39, 3), (11, .aload_n 0, 1), (12, .getfield 21, 3), (15, .aload_n 1, 1), (16, .getfield 21, 3), (19, .invokevirtual 43, 3), (22, .aload_n 0, 1), (23, .getfield 28, 3), (26, .aload_n 1, 1), (27, .getfield 28, 3), (30, .invokevirtual 46, 3), (33, .aload_n 0, 1), (34, .getfield 35, 3), (37, .aload_n 1, 1), (38, .getfield 35, 3), (41, .invokevirtual 49, 3), (44, .return_, 1)]
theorem t_X11_copy : jv_dec cX11_copy t0_X11_copy = true := by decide +kernel
def M_X11_copy : jm := (yX11_copy, cX11_copy, 2, none, 4, 103, [])
theorem lk_X11_39 : jv_lk RX11 39 M_X5_copy := Or.inr ⟨"SpaceWarden", (jv_at 548 (by decide +kernel))⟩
set_option maxRecDepth 20000 in
theorem me_X5_copy : jv_me M_X5_copy 1 := ⟨(jv_in2 (List.mem_of_getElem? (i := 151) rfl)), (jv_at 164 (by decide +kernel)), ⟨by decide, by decide⟩, by decide +kernel⟩
theorem lk_X11_43 : jv_lk RX11 43 M_X4_copy := Or.inr ⟨"SpaceWarden", (jv_at 561 (by decide +kernel))⟩
set_option maxRecDepth 20000 in
theorem me_X4_copy : jv_me M_X4_copy 1 := ⟨(jv_in2 (List.mem_of_getElem? (i := 164) rfl)), (jv_at 165 (by decide +kernel)), ⟨by decide, by decide⟩, by decide +kernel⟩
theorem lk_X11_46 : jv_lk RX11 46 M_X10_copy := Or.inr ⟨"SpaceWarden", (jv_at 571 (by decide +kernel))⟩
set_option maxRecDepth 20000 in
theorem me_X10_copy : jv_me M_X10_copy 1 := ⟨(jv_in2 (List.mem_of_getElem? (i := 174) rfl)), (jv_at 167 (by decide +kernel)), ⟨by decide, by decide⟩, by decide +kernel⟩
theorem lk_X11_49 : jv_lk RX11 49 M_X2_copy := Or.inr ⟨"SpaceWarden", (jv_at 577 (by decide +kernel))⟩
set_option maxRecDepth 20000 in
theorem me_X2_copy : jv_me M_X2_copy 1 := ⟨(jv_in2 (List.mem_of_getElem? (i := 180) rfl)), (jv_at 168 (by decide +kernel)), ⟨by decide, by decide⟩, by decide +kernel⟩
theorem mv_X2_copy : jv_mv M_X2_copy := ⟨(jv_at 579 (by decide +kernel)), (jv_at 9 (by decide +kernel))⟩
theorem mv_X10_copy : jv_mv M_X10_copy := ⟨(jv_at 573 (by decide +kernel)), (jv_at 8 (by decide +kernel))⟩
theorem mv_X4_copy : jv_mv M_X4_copy := ⟨(jv_at 563 (by decide +kernel)), (jv_at 6 (by decide +kernel))⟩
theorem mv_X5_copy : jv_mv M_X5_copy := ⟨(jv_at 550 (by decide +kernel)), (jv_at 5 (by decide +kernel))⟩
def f_X11_copy (a0 : Nat) (a1 : Nat) (h : jh) : Option (Unit × jh) :=
  gR h a0 9 0 fun v1 =>
  gR h a1 9 0 fun v2 =>
  cV h v1 3 (f_X5_copy v1 v2 h) fun _ h3 =>
  gR h3 a0 9 1 fun v4 =>
  gR h3 a1 9 1 fun v5 =>
  cV h3 v4 2 (f_X4_copy v4 v5 h3) fun _ h6 =>
  gR h6 a0 9 2 fun v7 =>
  gR h6 a1 9 2 fun v8 =>
  cV h6 v7 8 (f_X10_copy v7 v8 h6) fun _ h9 =>
  gR h9 a0 9 3 fun v10 =>
  gR h9 a1 9 3 fun v11 =>
  cV h9 v10 0 (f_X2_copy v10 v11 h9) fun _ h12 =>
  some ((), h12)
theorem P_X11_copy (X : jx) (a0 : Nat) (a1 : Nat) (h : jh) : jv_P X M_X11_copy jeV [.ref (a0), .ref (a1)] h (f_X11_copy a0 a1 h) := by
  refine jv_P.of (by decide) rfl (by simp [Value.category]) (Nat.le_of_ble_eq_true rfl) ?_
  show jv_O X M_X11_copy (h.1, h.2.1) jeV 0 [some (.ref (a0)), some (.ref (a1))] [] h (f_X11_copy a0 a1 h)
  unfold f_X11_copy
  refine jv_aload_n (jv_dk t_X11_copy (k := 0) rfl) rfl rfl (Or.inr ⟨_, rfl⟩) ?_
  refine jv_gR (jv_dk t_X11_copy (k := 1) rfl) fl_X11_12 (fun v1 => ?_)
  refine jv_aload_n (jv_dk t_X11_copy (k := 2) rfl) rfl rfl (Or.inr ⟨_, rfl⟩) ?_
  refine jv_gR (jv_dk t_X11_copy (k := 3) rfl) fl_X11_12 (fun v2 => ?_)
  refine jv_callV (en' := jeV) (pv := jpV) (As := [.ref (v2)]) (S := []) (jv_dk t_X11_copy (k := 4) rfl) (fun _ => rfl) lk_X11_39 me_X5_copy mv_X5_copy ⟨by decide, by decide⟩ rfl rfl rfl (Nat.le_of_ble_eq_true rfl) (P_X5_copy X v1 v2 h) (fun _ h3 => ?_)
  show jv_O X M_X11_copy _ jeV 11 [some (.ref (a0)), some (.ref (a1))] [] h3 _
  refine jv_aload_n (jv_dk t_X11_copy (k := 5) rfl) rfl rfl (Or.inr ⟨_, rfl⟩) ?_
  refine jv_gR (jv_dk t_X11_copy (k := 6) rfl) fl_X11_21 (fun v4 => ?_)
  refine jv_aload_n (jv_dk t_X11_copy (k := 7) rfl) rfl rfl (Or.inr ⟨_, rfl⟩) ?_
  refine jv_gR (jv_dk t_X11_copy (k := 8) rfl) fl_X11_21 (fun v5 => ?_)
  refine jv_callV (en' := jeV) (pv := jpV) (As := [.ref (v5)]) (S := []) (jv_dk t_X11_copy (k := 9) rfl) (fun _ => rfl) lk_X11_43 me_X4_copy mv_X4_copy ⟨by decide, by decide⟩ rfl rfl rfl (Nat.le_of_ble_eq_true rfl) (P_X4_copy X v4 v5 h3) (fun _ h6 => ?_)
  show jv_O X M_X11_copy _ jeV 22 [some (.ref (a0)), some (.ref (a1))] [] h6 _
  refine jv_aload_n (jv_dk t_X11_copy (k := 10) rfl) rfl rfl (Or.inr ⟨_, rfl⟩) ?_
  refine jv_gR (jv_dk t_X11_copy (k := 11) rfl) fl_X11_28 (fun v7 => ?_)
  refine jv_aload_n (jv_dk t_X11_copy (k := 12) rfl) rfl rfl (Or.inr ⟨_, rfl⟩) ?_
  refine jv_gR (jv_dk t_X11_copy (k := 13) rfl) fl_X11_28 (fun v8 => ?_)
  refine jv_callV (en' := jeV) (pv := jpV) (As := [.ref (v8)]) (S := []) (jv_dk t_X11_copy (k := 14) rfl) (fun _ => rfl) lk_X11_46 me_X10_copy mv_X10_copy ⟨by decide, by decide⟩ rfl rfl rfl (Nat.le_of_ble_eq_true rfl) (P_X10_copy X v7 v8 h6) (fun _ h9 => ?_)
  show jv_O X M_X11_copy _ jeV 33 [some (.ref (a0)), some (.ref (a1))] [] h9 _
  refine jv_aload_n (jv_dk t_X11_copy (k := 15) rfl) rfl rfl (Or.inr ⟨_, rfl⟩) ?_
  refine jv_gR (jv_dk t_X11_copy (k := 16) rfl) fl_X11_35 (fun v10 => ?_)
  refine jv_aload_n (jv_dk t_X11_copy (k := 17) rfl) rfl rfl (Or.inr ⟨_, rfl⟩) ?_
  refine jv_gR (jv_dk t_X11_copy (k := 18) rfl) fl_X11_35 (fun v11 => ?_)
  refine jv_callV (en' := jeV) (pv := jpV) (As := [.ref (v11)]) (S := []) (jv_dk t_X11_copy (k := 19) rfl) (fun _ => rfl) lk_X11_49 me_X2_copy mv_X2_copy ⟨by decide, by decide⟩ rfl rfl rfl (Nat.le_of_ble_eq_true rfl) (P_X2_copy X v10 v11 h9) (fun _ h12 => ?_)
  show jv_O X M_X11_copy _ jeV 44 [some (.ref (a0)), some (.ref (a1))] [] h12 _
  exact jv_vret (jv_dk t_X11_copy (k := 20) rfl) rfl rfl
def t0_X8_readyToKeep : List (Nat × Instr × Nat) := [(0, .aload_n 0, 1), (1, .aload_n 0, 1), (2, .getfield 33, 3), (5, .invokevirtual 40, 3), (8, .aload_n 0, 1), (9, .getfield 12, 3), (12, .invokevirtual 44, 3), (15, .return_, 1)]
theorem t_X8_readyToKeep : jv_dec cX8_readyToKeep t0_X8_readyToKeep = true := by decide +kernel
def M_X8_readyToKeep : jm := (yX8_readyToKeep, cX8_readyToKeep, 1, none, 5, 124, [])
theorem lk_X8_40 : Cond.methodLink RX8 40 M_X8_rowAt.1 ∈ lw_tbl := (jv_at 540 (by decide +kernel))
set_option maxRecDepth 20000 in
theorem me_X8_rowAt : jv_me M_X8_rowAt 1 := ⟨(jv_in2 (List.mem_of_getElem? (i := 143) rfl)), (jv_at 162 (by decide +kernel)), ⟨by decide, by decide⟩, by decide +kernel⟩
theorem lk_X8_44 : jv_lk RX8 44 M_X11_copy := Or.inr ⟨"SpaceWarden", (jv_at 544 (by decide +kernel))⟩
set_option maxRecDepth 20000 in
theorem me_X11_copy : jv_me M_X11_copy 1 := ⟨(jv_in2 (List.mem_of_getElem? (i := 147) rfl)), (jv_at 163 (by decide +kernel)), ⟨by decide, by decide⟩, by decide +kernel⟩
theorem mv_X11_copy : jv_mv M_X11_copy := ⟨(jv_at 546 (by decide +kernel)), (jv_at 4 (by decide +kernel))⟩
theorem mv_X8_rowAt : jv_mv M_X8_rowAt := ⟨(jv_at 542 (by decide +kernel)), (jv_at 3 (by decide +kernel))⟩
def f_X8_readyToKeep (a0 : Nat) (h : jh) : Option (Unit × jh) :=
  gI h a0 6 4 fun v1 =>
  cV h a0 6 (f_X8_rowAt a0 v1 h) fun v2 h3 =>
  gR h3 a0 6 0 fun v4 =>
  nn v2 fun r5 =>
  cV h3 r5 9 (f_X11_copy r5 v4 h3) fun _ h6 =>
  some ((), h6)
theorem P_X8_readyToKeep (X : jx) (a0 : Nat) (h : jh) : jv_P X M_X8_readyToKeep jeV [.ref (a0)] h (f_X8_readyToKeep a0 h) := by
  refine jv_P.of (by decide) rfl (by simp [Value.category]) (Nat.le_of_ble_eq_true rfl) ?_
  show jv_O X M_X8_readyToKeep (h.1, h.2.1) jeV 0 [some (.ref (a0))] [] h (f_X8_readyToKeep a0 h)
  unfold f_X8_readyToKeep
  refine jv_aload_n (jv_dk t_X8_readyToKeep (k := 0) rfl) rfl rfl (Or.inr ⟨_, rfl⟩) ?_
  refine jv_aload_n (jv_dk t_X8_readyToKeep (k := 1) rfl) rfl rfl (Or.inr ⟨_, rfl⟩) ?_
  refine jv_gI (jv_dk t_X8_readyToKeep (k := 2) rfl) fl_X8_33 (fun v1 => ?_)
  refine jv_callV (en' := jeQ) (pv := jpQ) (As := [.int (v1)]) (S := []) (jv_dk t_X8_readyToKeep (k := 3) rfl) (fun _ => rfl) (Or.inl lk_X8_40) me_X8_rowAt mv_X8_rowAt ⟨by decide, by decide⟩ rfl rfl rfl (Nat.le_of_ble_eq_true rfl) (P_X8_rowAt X a0 v1 h) (fun v2 h3 => ?_)
  show jv_O X M_X8_readyToKeep _ jeV 8 [some (.ref (a0))] [va_rf (v2)] h3 _
  refine jv_aload_n (jv_dk t_X8_readyToKeep (k := 4) rfl) rfl rfl (Or.inr ⟨_, rfl⟩) ?_
  refine jv_gR (jv_dk t_X8_readyToKeep (k := 5) rfl) fl_X8_12 (fun v4 => ?_)
  refine jv_nn (fun r5 e_r5 => ?_)
  subst e_r5
  show jv_O X M_X8_readyToKeep _ jeV 12 [some (.ref (a0))] [.ref (v4), .ref (r5)] h3 _
  refine jv_callV (en' := jeV) (pv := jpV) (As := [.ref (v4)]) (S := []) (jv_dk t_X8_readyToKeep (k := 6) rfl) (fun _ => rfl) lk_X8_44 me_X11_copy mv_X11_copy ⟨by decide, by decide⟩ rfl rfl rfl (Nat.le_of_ble_eq_true rfl) (P_X11_copy X r5 v4 h3) (fun _ h6 => ?_)
  show jv_O X M_X8_readyToKeep _ jeV 15 [some (.ref (a0))] [] h6 _
  exact jv_vret (jv_dk t_X8_readyToKeep (k := 7) rfl) rfl rfl
def t0_X8_keep : List (Nat × Instr × Nat) := [(0, .aload_n 0, 1), (1, .aload_n 0, 1), (2, .getfield 33, 3), (5, .iconst 1, 1), (6, .iadd, 1), (7, .bipush 41, 2), (9, .if_icmp .ge 12, 3), (12, .aload_n 0, 1), (13, .getfield 33, 3), (16, .iconst 1, 1), (17, .iadd, 1), (18, .goto 4, 3), (21, .iconst 0, 1), (22, .putfield 33, 3), (25, .aload_n 0, 1), (26, .aload_n 0, 1), (27, .getfield 37, 3), (30, .iconst 1, 1), (31, .iadd, 1), (32, .bipush 40, 2), (34, .invokestatic 48, 3), (37, .putfield 37, 3), (40, .return_, 1)]
theorem t_X8_keep : jv_dec cX8_keep t0_X8_keep = true := by decide +kernel
def M_X8_keep : jm := (yX8_keep, cX8_keep, 1, none, 1, 21, [])
theorem mt_X8_48 : Cond.methodLink RX8 48 Lib.Math.min.name ∈ lw_tbl := (jv_at 820 (by decide +kernel))
def f_X8_keep_b22 (x0 : Nat) (s0 : Int32) (s1 : Nat) (h : jh) : Option (Unit × jh) :=
  pV h s1 6 4 (.int (s0)) fun h3 =>
  gI h3 x0 6 5 fun v4 =>
  lt1 (if 40 < (v4 + 1) then 40 else (v4 + 1)) fun v5 =>
  pV h3 x0 6 5 (.int (v5)) fun h6 =>
  some ((), h6)
theorem o_f_X8_keep_b22 {X : jx} {b0 : Nat × Nat} (x0 : Nat) (s0 : Int32) (s1 : Nat) (h : jh) : jv_O X M_X8_keep b0 jeV 22 [some (.ref (x0))] [.int (s0), .ref (s1)] h (f_X8_keep_b22 x0 s0 s1 h) := by
  unfold f_X8_keep_b22
  refine jv_pV (jv_dk t_X8_keep (k := 13) rfl) fl_X8_33 kX8 (Or.inl rfl) rfl rfl rfl (fun h3 => ?_)
  refine jv_aload_n (jv_dk t_X8_keep (k := 14) rfl) rfl rfl (Or.inr ⟨_, rfl⟩) ?_
  refine jv_aload_n (jv_dk t_X8_keep (k := 15) rfl) rfl rfl (Or.inr ⟨_, rfl⟩) ?_
  refine jv_gI (jv_dk t_X8_keep (k := 16) rfl) fl_X8_37 (fun v4 => ?_)
  refine jv_iconst (v := 1) (jv_dk t_X8_keep (k := 17) rfl) (by decide) ?_
  refine jv_iadd (jv_dk t_X8_keep (k := 18) rfl) ?_
  refine jv_bipush (v := 40) (jv_dk t_X8_keep (k := 19) rfl) (by decide) ?_
  refine jv_lt1 (fun v5 e_v5 => ?_)
  refine jv_mmin (jv_dk t_X8_keep (k := 20) rfl) mt_X8_48 (Nat.le_of_ble_eq_true rfl) ⟨by decide, by decide⟩ ?_
  rw [← e_v5]
  refine jv_pV (jv_dk t_X8_keep (k := 21) rfl) fl_X8_37 kX8 (Or.inl rfl) rfl rfl rfl (fun h6 => ?_)
  exact jv_vret (jv_dk t_X8_keep (k := 22) rfl) rfl rfl
def f_X8_keep (a0 : Nat) (h : jh) : Option (Unit × jh) :=
  gI h a0 6 4 fun v1 =>
  (if 41 ≤ (v1 + 1) then
  f_X8_keep_b22 a0 0 a0 h
  else
  gI h a0 6 4 fun v7 =>
  f_X8_keep_b22 a0 (v7 + 1) a0 h)
theorem P_X8_keep (X : jx) (a0 : Nat) (h : jh) : jv_P X M_X8_keep jeV [.ref (a0)] h (f_X8_keep a0 h) := by
  refine jv_P.of (by decide) rfl (by simp [Value.category]) (Nat.le_of_ble_eq_true rfl) ?_
  show jv_O X M_X8_keep (h.1, h.2.1) jeV 0 [some (.ref (a0))] [] h (f_X8_keep a0 h)
  unfold f_X8_keep
  refine jv_aload_n (jv_dk t_X8_keep (k := 0) rfl) rfl rfl (Or.inr ⟨_, rfl⟩) ?_
  refine jv_aload_n (jv_dk t_X8_keep (k := 1) rfl) rfl rfl (Or.inr ⟨_, rfl⟩) ?_
  refine jv_gI (jv_dk t_X8_keep (k := 2) rfl) fl_X8_33 (fun v1 => ?_)
  refine jv_iconst (v := 1) (jv_dk t_X8_keep (k := 3) rfl) (by decide) ?_
  refine jv_iadd (jv_dk t_X8_keep (k := 4) rfl) ?_
  refine jv_bipush (v := 41) (jv_dk t_X8_keep (k := 5) rfl) (by decide) ?_
  refine jv_icmp_ge (tgt := 21) (jv_dk t_X8_keep (k := 6) rfl) rfl (fun c2 => ?_) (fun c2 => ?_)
  · refine jv_iconst (v := 0) (jv_dk t_X8_keep (k := 12) rfl) (by decide) ?_
    exact o_f_X8_keep_b22 _ _ _ _ 
  · show jv_O _ _ _ _ 12 _ _ _ _
    refine jv_aload_n (jv_dk t_X8_keep (k := 7) rfl) rfl rfl (Or.inr ⟨_, rfl⟩) ?_
    refine jv_gI (jv_dk t_X8_keep (k := 8) rfl) fl_X8_33 (fun v7 => ?_)
    refine jv_iconst (v := 1) (jv_dk t_X8_keep (k := 9) rfl) (by decide) ?_
    refine jv_iadd (jv_dk t_X8_keep (k := 10) rfl) ?_
    refine jv_goto (tgt := 22) (jv_dk t_X8_keep (k := 11) rfl) rfl ?_
    exact o_f_X8_keep_b22 _ _ _ _ 
def t0_X8_rowBefore : List (Nat × Instr × Nat) := [(0, .iload_n 0, 1), (1, .ifCond .le 9, 3), (4, .iload_n 0, 1), (5, .iconst 1, 1), (6, .isub, 1), (7, .goto 5, 3), (10, .bipush 40, 2), (12, .ireturn, 1)]
theorem t_X8_rowBefore : jv_dec cX8_rowBefore t0_X8_rowBefore = true := by decide +kernel
def M_X8_rowBefore : jm := (yX8_rowBefore, cX8_rowBefore, 1, (some .int), 0, 0, [])
def f_X8_rowBefore (a0 : Int32) (h : jh) : Option (Int32 × jh) :=
  (if a0 ≤ 0 then
  some (40, h)
  else
  some (a0 - 1, h))
theorem P_X8_rowBefore (X : jx) (a0 : Int32) (h : jh) : jv_P X M_X8_rowBefore jeI [.int (a0)] h (f_X8_rowBefore a0 h) := by
  refine jv_P.of (by decide) rfl (by simp [Value.category]) (Nat.le_of_ble_eq_true rfl) ?_
  show jv_O X M_X8_rowBefore (h.1, h.2.1) jeI 0 [some (.int (a0))] [] h (f_X8_rowBefore a0 h)
  unfold f_X8_rowBefore
  refine jv_iload_n (jv_dk t_X8_rowBefore (k := 0) rfl) rfl rfl ?_
  refine jv_if_le (tgt := 10) (jv_dk t_X8_rowBefore (k := 1) rfl) rfl (fun c1 => ?_) (fun c1 => ?_)
  · refine jv_bipush (v := 40) (jv_dk t_X8_rowBefore (k := 6) rfl) (by decide) ?_
    exact jv_iret (ty := .int) (jv_dk t_X8_rowBefore (k := 7) rfl) rfl rfl rfl
  · show jv_O _ _ _ _ 4 _ _ _ _
    refine jv_iload_n (jv_dk t_X8_rowBefore (k := 2) rfl) rfl rfl ?_
    refine jv_iconst (v := 1) (jv_dk t_X8_rowBefore (k := 3) rfl) (by decide) ?_
    refine jv_isub (jv_dk t_X8_rowBefore (k := 4) rfl) ?_
    refine jv_goto (tgt := 12) (jv_dk t_X8_rowBefore (k := 5) rfl) rfl ?_
    exact jv_iret (ty := .int) (jv_dk t_X8_rowBefore (k := 7) rfl) rfl rfl rfl
def t0_X8_undoLast : List (Nat × Instr × Nat) := [(0, .aload_n 0, 1), (1, .getfield 37, 3), (4, .ifCond .ne 5, 3), (7, .iconst (-1), 1), (8, .ireturn, 1), (9, .aload_n 0, 1), (10, .aload_n 0, 1), (11, .getfield 33, 3), (14, .invokestatic 54, 3), (17, .putfield 33, 3), (20, .aload_n 0, 1), (21, .getfield 18, 3), (24, .aload_n 0, 1), (25, .getfield 33, 3), (28, .aaload, 1), (29, .astore_n 1, 1), (30, .aload_n 1, 1), (31, .ifnull 11, 3), (34, .aload_n 0, 1), (35, .getfield 12, 3), (38, .aload_n 1, 1), (39, .invokevirtual 44, 3), (42, .aload_n 0, 1), (43, .dup, 1), (44, .getfield 37, 3), (47, .iconst 1, 1), (48, .isub, 1), (49, .putfield 37, 3), (52, .aload_n 0, 1), (53, .getfield 37, 3), (56, .ireturn, 1)]
theorem t_X8_undoLast : jv_dec cX8_undoLast t0_X8_undoLast = true := by decide +kernel
def M_X8_undoLast : jm := (yX8_undoLast, cX8_undoLast, 2, (some .int), 5, 124, [])
theorem lk_X8_54 : Cond.methodLink RX8 54 M_X8_rowBefore.1 ∈ lw_tbl := (jv_at 881 (by decide +kernel))
set_option maxRecDepth 20000 in
theorem me_X8_rowBefore : jv_me M_X8_rowBefore 1 := ⟨(jv_in4 (List.mem_of_getElem? (i := 3) rfl)), (jv_at 162 (by decide +kernel)), ⟨by decide, by decide⟩, by decide +kernel⟩
theorem ms_X8_rowBefore : jv_ms M_X8_rowBefore := (jv_at 882 (by decide +kernel))
def f_X8_undoLast_b42 (x0 : Nat) (h : jh) : Option (Int32 × jh) :=
  gI h x0 6 5 fun v11 =>
  pV h x0 6 5 (.int (v11 - 1)) fun h12 =>
  gI h12 x0 6 5 fun v13 =>
  some (v13, h12)
theorem o_f_X8_undoLast_b42 {X : jx} {b0 : Nat × Nat} (x0 : Nat) (h : jh) : jv_O X M_X8_undoLast b0 jeI 42 [some (.ref (x0)), none] [] h (f_X8_undoLast_b42 x0 h) := by
  unfold f_X8_undoLast_b42
  refine jv_aload_n (jv_dk t_X8_undoLast (k := 22) rfl) rfl rfl (Or.inr ⟨_, rfl⟩) ?_
  refine jv_dup (jv_dk t_X8_undoLast (k := 23) rfl) rfl ?_
  refine jv_gI (jv_dk t_X8_undoLast (k := 24) rfl) fl_X8_37 (fun v11 => ?_)
  refine jv_iconst (v := 1) (jv_dk t_X8_undoLast (k := 25) rfl) (by decide) ?_
  refine jv_isub (jv_dk t_X8_undoLast (k := 26) rfl) ?_
  refine jv_pV (jv_dk t_X8_undoLast (k := 27) rfl) fl_X8_37 kX8 (Or.inl rfl) rfl rfl rfl (fun h12 => ?_)
  refine jv_aload_n (jv_dk t_X8_undoLast (k := 28) rfl) rfl rfl (Or.inr ⟨_, rfl⟩) ?_
  refine jv_gI (jv_dk t_X8_undoLast (k := 29) rfl) fl_X8_37 (fun v13 => ?_)
  exact jv_iret (ty := .int) (jv_dk t_X8_undoLast (k := 30) rfl) rfl rfl rfl
def f_X8_undoLast (a0 : Nat) (h : jh) : Option (Int32 × jh) :=
  gI h a0 6 5 fun v1 =>
  (if ¬ v1 = 0 then
  gI h a0 6 4 fun v3 =>
  bd (f_X8_rowBefore v3 h) fun v4 h5 =>
  pV h5 a0 6 4 (.int (v4)) fun h6 =>
  gR h6 a0 6 1 fun v7 =>
  gI h6 a0 6 4 fun v8 =>
  aQ h6 2 v7 v8 fun v9 =>
  nq v9 (f_X8_undoLast_b42 a0 h6) fun r10 =>
  gR h6 a0 6 0 fun v14 =>
  cV h6 v14 9 (f_X11_copy v14 r10 h6) fun _ h15 =>
  f_X8_undoLast_b42 a0 h15
  else
  some ((-1), h))
theorem P_X8_undoLast (X : jx) (a0 : Nat) (h : jh) : jv_P X M_X8_undoLast jeI [.ref (a0)] h (f_X8_undoLast a0 h) := by
  refine jv_P.of (by decide) rfl (by simp [Value.category]) (Nat.le_of_ble_eq_true rfl) ?_
  show jv_O X M_X8_undoLast (h.1, h.2.1) jeI 0 [some (.ref (a0)), none] [] h (f_X8_undoLast a0 h)
  unfold f_X8_undoLast
  refine jv_aload_n (jv_dk t_X8_undoLast (k := 0) rfl) rfl rfl (Or.inr ⟨_, rfl⟩) ?_
  refine jv_gI (jv_dk t_X8_undoLast (k := 1) rfl) fl_X8_37 (fun v1 => ?_)
  refine jv_if_ne (tgt := 9) (jv_dk t_X8_undoLast (k := 2) rfl) rfl (fun c2 => ?_) (fun c2 => ?_)
  · refine jv_aload_n (jv_dk t_X8_undoLast (k := 5) rfl) rfl rfl (Or.inr ⟨_, rfl⟩) ?_
    refine jv_aload_n (jv_dk t_X8_undoLast (k := 6) rfl) rfl rfl (Or.inr ⟨_, rfl⟩) ?_
    refine jv_gI (jv_dk t_X8_undoLast (k := 7) rfl) fl_X8_33 (fun v3 => ?_)
    refine jv_callS (en' := jeI) (pv := jpI) (As := [.int (v3)]) (S := [.ref (a0)]) (jv_dk t_X8_undoLast (k := 8) rfl) (fun _ => rfl) (Or.inl lk_X8_54) me_X8_rowBefore ms_X8_rowBefore ⟨by decide, by decide⟩ rfl rfl (Nat.le_of_ble_eq_true rfl) (P_X8_rowBefore X v3 h) (fun v4 h5 => ?_)
    show jv_O X M_X8_undoLast _ jeI 17 [some (.ref (a0)), none] [.int (v4), .ref (a0)] h5 _
    refine jv_pV (jv_dk t_X8_undoLast (k := 9) rfl) fl_X8_33 kX8 (Or.inl rfl) rfl rfl rfl (fun h6 => ?_)
    refine jv_aload_n (jv_dk t_X8_undoLast (k := 10) rfl) rfl rfl (Or.inr ⟨_, rfl⟩) ?_
    refine jv_gR (jv_dk t_X8_undoLast (k := 11) rfl) fl_X8_18 (fun v7 => ?_)
    refine jv_aload_n (jv_dk t_X8_undoLast (k := 12) rfl) rfl rfl (Or.inr ⟨_, rfl⟩) ?_
    refine jv_gI (jv_dk t_X8_undoLast (k := 13) rfl) fl_X8_33 (fun v8 => ?_)
    refine jv_aaloadW (jv_dk t_X8_undoLast (k := 14) rfl) (fun v9 => ?_)
    refine jv_astore_n (L' := [some (.ref (a0)), some (va_rf (v9))]) (jv_dk t_X8_undoLast (k := 15) rfl) rfl (Nat.le_of_ble_eq_true rfl) (va_rf_or _) rfl ?_
    refine jv_aload_n (jv_dk t_X8_undoLast (k := 16) rfl) rfl rfl (va_rf_or _) ?_
    refine jv_nq (fun e_r10 => ?_) (fun r10 e_r10 => ?_)
    · subst e_r10
      show jv_O X M_X8_undoLast _ jeI 31 [some (.ref (a0)), some (.null)] [.null] h6 _
      refine jv_ifnull_n (tgt := 42) (jv_dk t_X8_undoLast (k := 17) rfl) rfl ?_
      refine jv_le_row (jv_le_s (jv_le_n (jv_le_nil))) ?_
      exact o_f_X8_undoLast_b42 _ _ 
    · subst e_r10
      show jv_O X M_X8_undoLast _ jeI 31 [some (.ref (a0)), some (.ref (r10))] [.ref (r10)] h6 _
      refine jv_ifnull_s (jv_dk t_X8_undoLast (k := 17) rfl) ?_
      refine jv_aload_n (jv_dk t_X8_undoLast (k := 18) rfl) rfl rfl (Or.inr ⟨_, rfl⟩) ?_
      refine jv_gR (jv_dk t_X8_undoLast (k := 19) rfl) fl_X8_12 (fun v14 => ?_)
      refine jv_aload_n (jv_dk t_X8_undoLast (k := 20) rfl) rfl rfl (Or.inr ⟨_, rfl⟩) ?_
      refine jv_callV (en' := jeV) (pv := jpV) (As := [.ref (r10)]) (S := []) (jv_dk t_X8_undoLast (k := 21) rfl) (fun _ => rfl) lk_X8_44 me_X11_copy mv_X11_copy ⟨by decide, by decide⟩ rfl rfl rfl (Nat.le_of_ble_eq_true rfl) (P_X11_copy X v14 r10 h6) (fun _ h15 => ?_)
      show jv_O X M_X8_undoLast _ jeI 42 [some (.ref (a0)), some (.ref (r10))] [] h15 _
      refine jv_le_row (jv_le_s (jv_le_n (jv_le_nil))) ?_
      exact o_f_X8_undoLast_b42 _ _ 
  · show jv_O _ _ _ _ 7 _ _ _ _
    refine jv_iconst (v := (-1)) (jv_dk t_X8_undoLast (k := 3) rfl) (by decide) ?_
    exact jv_iret (ty := .int) (jv_dk t_X8_undoLast (k := 4) rfl) rfl rfl rfl
def t0_X8_copy : List (Nat × Instr × Nat) := [(0, .aload_n 0, 1), (1, .getfield 12, 3), (4, .aload_n 1, 1), (5, .getfield 12, 3), (8, .invokevirtual 44, 3), (11, .aload_n 0, 1), (12, .getfield 25, 3), (15, .aload_n 1, 1), (16, .getfield 25, 3), (19, .invokevirtual 58, 3), (22, .aload_n 1, 1), (23, .getfield 29, 3), (26, .aload_n 0, 1), (27, .getfield 29, 3), (30, .invokestatic 61, 3), (33, .aload_n 0, 1), (34, .aload_n 1, 1), (35, .getfield 33, 3), (38, .putfield 33, 3), (41, .aload_n 0, 1), (42, .aload_n 1, 1), (43, .getfield 37, 3), (46, .putfield 37, 3), (49, .aload_n 0, 1), (50, .getfield 33, 3), (53, .istore_n 2, 1), (54, .iconst 0, 1), (55, .istore_n 3, 1), (56, .iload_n 3, 1), (57, .aload_n 0, 1), (58, .getfield 37, 3), (61, .if_icmp .ge 43, 3), (64, .iload_n 3, 1), (65, .bipush 41, 2), (67, .if_icmp .ge 37, 3), (70, .iload_n 2, 1), (71, .invokestatic 54, 3), (74, .istore_n 2, 1), (75, .aload_n 1, 1), (76, .getfield 18, 3), (79, .iload_n 2, 1), (80, .aaload, 1), (81, .astore 4, 2), (83, .aload 4, 2), (85, .ifnull 13, 3), (88, .aload_n 0, 1), (89, .iload_n 2, 1), (90, .invokevirtual 40, 3), (93, .aload 4, 2), (95, .invokevirtual 44, 3), (98, .iinc 3 1, 3), (101, .goto (-45), 3), (104, .return_, 1)]
theorem t_X8_copy : jv_dec cX8_copy t0_X8_copy = true := by decide +kernel
def M_X8_copy : jm := (yX8_copy, cX8_copy, 5, none, 5, 124, [])
theorem lk_X8_58 : jv_lk RX8 58 M_X3_copy := Or.inr ⟨"SpaceWarden", (jv_at 926 (by decide +kernel))⟩
set_option maxRecDepth 20000 in
theorem me_X3_copy : jv_me M_X3_copy 1 := ⟨(jv_in4 (List.mem_of_getElem? (i := 49) rfl)), (jv_at 169 (by decide +kernel)), ⟨by decide, by decide⟩, by decide +kernel⟩
theorem lk_X8_61 : jv_lk RX8 61 M_X12_copyRow := Or.inr ⟨"SpaceWarden", (jv_at 931 (by decide +kernel))⟩
theorem mv_X3_copy : jv_mv M_X3_copy := ⟨(jv_at 928 (by decide +kernel)), (jv_at 66 (by decide +kernel))⟩
def f_X8_copy_h56 (K56 : jh → Option (Unit × jh)) (R56 : Nat → Nat → Int32 → Int32 → jh → Option (Unit × jh)) (x0 : Nat) (x1 : Nat) (x2 : Int32) (x3 : Int32) (h : jh) : Option (Unit × jh) :=
  gI h x0 6 5 fun v15 =>
  (if v15 ≤ x3 then
  K56  h
  else
  (if 41 ≤ x3 then
  K56  h
  else
  bd (f_X8_rowBefore x2 h) fun v18 h19 =>
  gR h19 x1 6 1 fun v20 =>
  aQ h19 2 v20 v18 fun v21 =>
  nq v21 (R56 x0 x1 v18 (x3 + 1) h19) fun r22 =>
  cV h19 x0 6 (f_X8_rowAt x0 v18 h19) fun v23 h24 =>
  nn v23 fun r25 =>
  cV h24 r25 9 (f_X11_copy r25 r22 h24) fun _ h26 =>
  R56 x0 x1 v18 (x3 + 1) h26))
theorem o_f_X8_copy_h56 {X : jx} {b0 : Nat × Nat} {K56 : jh → Option (Unit × jh)} (hK56 : ∀  (h : jh), jv_O X M_X8_copy b0 jeV 104 [none, none, none, none, none] [] h (K56  h)) : ∀ (x0 : Nat) (x1 : Nat) (x2 : Int32) (x3 : Int32) (h : jh), jv_O X M_X8_copy b0 jeV 56 [some (.ref (x0)), some (.ref (x1)), some (.int (x2)), some (.int (x3)), none] [] h (jlp4 (f_X8_copy_h56 K56) jfu x0 x1 x2 x3 h) := by
  refine jlp4_ok (P := fun x0 x1 x2 x3 h o => jv_O X M_X8_copy b0 jeV 56 [some (.ref (x0)), some (.ref (x1)), some (.int (x2)), some (.int (x3)), none] [] h o) (fun R56 hR56 => ?_) (fun _ _ _ _ _  => jv_none rfl) jfu
  intro x0 x1 x2 x3 h
  unfold f_X8_copy_h56
  refine jv_iload_n (jv_dk t_X8_copy (k := 28) rfl) rfl rfl ?_
  refine jv_aload_n (jv_dk t_X8_copy (k := 29) rfl) rfl rfl (Or.inr ⟨_, rfl⟩) ?_
  refine jv_gI (jv_dk t_X8_copy (k := 30) rfl) fl_X8_37 (fun v15 => ?_)
  refine jv_icmp_ge (tgt := 104) (jv_dk t_X8_copy (k := 31) rfl) rfl (fun c16 => ?_) (fun c16 => ?_)
  · refine jv_le_row (jv_le_n (jv_le_n (jv_le_n (jv_le_n (jv_le_n (jv_le_nil)))))) ?_
    exact hK56 _ 
  · show jv_O _ _ _ _ 64 _ _ _ _
    refine jv_iload_n (jv_dk t_X8_copy (k := 32) rfl) rfl rfl ?_
    refine jv_bipush (v := 41) (jv_dk t_X8_copy (k := 33) rfl) (by decide) ?_
    refine jv_icmp_ge (tgt := 104) (jv_dk t_X8_copy (k := 34) rfl) rfl (fun c17 => ?_) (fun c17 => ?_)
    · refine jv_le_row (jv_le_n (jv_le_n (jv_le_n (jv_le_n (jv_le_n (jv_le_nil)))))) ?_
      exact hK56 _ 
    · show jv_O _ _ _ _ 70 _ _ _ _
      refine jv_iload_n (jv_dk t_X8_copy (k := 35) rfl) rfl rfl ?_
      refine jv_callS (en' := jeI) (pv := jpI) (As := [.int (x2)]) (S := []) (jv_dk t_X8_copy (k := 36) rfl) (fun _ => rfl) (Or.inl lk_X8_54) me_X8_rowBefore ms_X8_rowBefore ⟨by decide, by decide⟩ rfl rfl (Nat.le_of_ble_eq_true rfl) (P_X8_rowBefore X x2 h) (fun v18 h19 => ?_)
      show jv_O X M_X8_copy _ jeV 74 [some (.ref (x0)), some (.ref (x1)), some (.int (x2)), some (.int (x3)), none] [.int (v18)] h19 _
      refine jv_istore_n (L' := [some (.ref (x0)), some (.ref (x1)), some (.int (v18)), some (.int (x3)), none]) (jv_dk t_X8_copy (k := 37) rfl) rfl (Nat.le_of_ble_eq_true rfl) rfl ?_
      refine jv_aload_n (jv_dk t_X8_copy (k := 38) rfl) rfl rfl (Or.inr ⟨_, rfl⟩) ?_
      refine jv_gR (jv_dk t_X8_copy (k := 39) rfl) fl_X8_18 (fun v20 => ?_)
      refine jv_iload_n (jv_dk t_X8_copy (k := 40) rfl) rfl rfl ?_
      refine jv_aaloadW (jv_dk t_X8_copy (k := 41) rfl) (fun v21 => ?_)
      refine jv_astore (L' := [some (.ref (x0)), some (.ref (x1)), some (.int (v18)), some (.int (x3)), some (va_rf (v21))]) (jv_dk t_X8_copy (k := 42) rfl) (Nat.le_of_ble_eq_true rfl) (va_rf_or _) rfl ?_
      refine jv_aload (jv_dk t_X8_copy (k := 43) rfl) rfl (va_rf_or _) ?_
      refine jv_nq (fun e_r22 => ?_) (fun r22 e_r22 => ?_)
      · subst e_r22
        show jv_O X M_X8_copy _ jeV 85 [some (.ref (x0)), some (.ref (x1)), some (.int (v18)), some (.int (x3)), some (.null)] [.null] h19 _
        refine jv_ifnull_n (tgt := 98) (jv_dk t_X8_copy (k := 44) rfl) rfl ?_
        refine jv_iinc (v := 1) (L' := [some (.ref (x0)), some (.ref (x1)), some (.int (v18)), some (.int (x3 + 1)), some (.null)]) (jv_dk t_X8_copy (k := 50) rfl) rfl (by decide) rfl ?_
        refine jv_goto (tgt := 56) (jv_dk t_X8_copy (k := 51) rfl) rfl ?_
        refine jv_le_row (jv_le_s (jv_le_s (jv_le_s (jv_le_s (jv_le_n (jv_le_nil)))))) ?_
        exact hR56 _ _ _ _ _ 
      · subst e_r22
        show jv_O X M_X8_copy _ jeV 85 [some (.ref (x0)), some (.ref (x1)), some (.int (v18)), some (.int (x3)), some (.ref (r22))] [.ref (r22)] h19 _
        refine jv_ifnull_s (jv_dk t_X8_copy (k := 44) rfl) ?_
        refine jv_aload_n (jv_dk t_X8_copy (k := 45) rfl) rfl rfl (Or.inr ⟨_, rfl⟩) ?_
        refine jv_iload_n (jv_dk t_X8_copy (k := 46) rfl) rfl rfl ?_
        refine jv_callV (en' := jeQ) (pv := jpQ) (As := [.int (v18)]) (S := []) (jv_dk t_X8_copy (k := 47) rfl) (fun _ => rfl) (Or.inl lk_X8_40) me_X8_rowAt mv_X8_rowAt ⟨by decide, by decide⟩ rfl rfl rfl (Nat.le_of_ble_eq_true rfl) (P_X8_rowAt X x0 v18 h19) (fun v23 h24 => ?_)
        show jv_O X M_X8_copy _ jeV 93 [some (.ref (x0)), some (.ref (x1)), some (.int (v18)), some (.int (x3)), some (.ref (r22))] [va_rf (v23)] h24 _
        refine jv_aload (jv_dk t_X8_copy (k := 48) rfl) rfl (Or.inr ⟨_, rfl⟩) ?_
        refine jv_nn (fun r25 e_r25 => ?_)
        subst e_r25
        show jv_O X M_X8_copy _ jeV 95 [some (.ref (x0)), some (.ref (x1)), some (.int (v18)), some (.int (x3)), some (.ref (r22))] [.ref (r22), .ref (r25)] h24 _
        refine jv_callV (en' := jeV) (pv := jpV) (As := [.ref (r22)]) (S := []) (jv_dk t_X8_copy (k := 49) rfl) (fun _ => rfl) lk_X8_44 me_X11_copy mv_X11_copy ⟨by decide, by decide⟩ rfl rfl rfl (Nat.le_of_ble_eq_true rfl) (P_X11_copy X r25 r22 h24) (fun _ h26 => ?_)
        show jv_O X M_X8_copy _ jeV 98 [some (.ref (x0)), some (.ref (x1)), some (.int (v18)), some (.int (x3)), some (.ref (r22))] [] h26 _
        refine jv_iinc (v := 1) (L' := [some (.ref (x0)), some (.ref (x1)), some (.int (v18)), some (.int (x3 + 1)), some (.ref (r22))]) (jv_dk t_X8_copy (k := 50) rfl) rfl (by decide) rfl ?_
        refine jv_goto (tgt := 56) (jv_dk t_X8_copy (k := 51) rfl) rfl ?_
        refine jv_le_row (jv_le_s (jv_le_s (jv_le_s (jv_le_s (jv_le_n (jv_le_nil)))))) ?_
        exact hR56 _ _ _ _ _ 
def f_X8_copy (a0 : Nat) (a1 : Nat) (h : jh) : Option (Unit × jh) :=
  gR h a0 6 0 fun v1 =>
  gR h a1 6 0 fun v2 =>
  cV h v1 9 (f_X11_copy v1 v2 h) fun _ h3 =>
  gR h3 a0 6 2 fun v4 =>
  gR h3 a1 6 2 fun v5 =>
  cV h3 v4 1 (f_X3_copy v4 v5 h3) fun _ h6 =>
  gR h6 a1 6 3 fun v7 =>
  gR h6 a0 6 3 fun v8 =>
  bd (f_X12_copyRow v7 v8 h6) fun _ h9 =>
  gI h9 a1 6 4 fun v10 =>
  pV h9 a0 6 4 (.int (v10)) fun h11 =>
  gI h11 a1 6 5 fun v12 =>
  pV h11 a0 6 5 (.int (v12)) fun h13 =>
  gI h13 a0 6 4 fun v14 =>
  jlp4 (f_X8_copy_h56 (fun  h27 =>
  some ((), h27))) jfu a0 a1 v14 0 h13
theorem P_X8_copy (X : jx) (a0 : Nat) (a1 : Nat) (h : jh) : jv_P X M_X8_copy jeV [.ref (a0), .ref (a1)] h (f_X8_copy a0 a1 h) := by
  refine jv_P.of (by decide) rfl (by simp [Value.category]) (Nat.le_of_ble_eq_true rfl) ?_
  show jv_O X M_X8_copy (h.1, h.2.1) jeV 0 [some (.ref (a0)), some (.ref (a1)), none, none, none] [] h (f_X8_copy a0 a1 h)
  unfold f_X8_copy
  refine jv_aload_n (jv_dk t_X8_copy (k := 0) rfl) rfl rfl (Or.inr ⟨_, rfl⟩) ?_
  refine jv_gR (jv_dk t_X8_copy (k := 1) rfl) fl_X8_12 (fun v1 => ?_)
  refine jv_aload_n (jv_dk t_X8_copy (k := 2) rfl) rfl rfl (Or.inr ⟨_, rfl⟩) ?_
  refine jv_gR (jv_dk t_X8_copy (k := 3) rfl) fl_X8_12 (fun v2 => ?_)
  refine jv_callV (en' := jeV) (pv := jpV) (As := [.ref (v2)]) (S := []) (jv_dk t_X8_copy (k := 4) rfl) (fun _ => rfl) lk_X8_44 me_X11_copy mv_X11_copy ⟨by decide, by decide⟩ rfl rfl rfl (Nat.le_of_ble_eq_true rfl) (P_X11_copy X v1 v2 h) (fun _ h3 => ?_)
  show jv_O X M_X8_copy _ jeV 11 [some (.ref (a0)), some (.ref (a1)), none, none, none] [] h3 _
  refine jv_aload_n (jv_dk t_X8_copy (k := 5) rfl) rfl rfl (Or.inr ⟨_, rfl⟩) ?_
  refine jv_gR (jv_dk t_X8_copy (k := 6) rfl) fl_X8_25 (fun v4 => ?_)
  refine jv_aload_n (jv_dk t_X8_copy (k := 7) rfl) rfl rfl (Or.inr ⟨_, rfl⟩) ?_
  refine jv_gR (jv_dk t_X8_copy (k := 8) rfl) fl_X8_25 (fun v5 => ?_)
  refine jv_callV (en' := jeV) (pv := jpV) (As := [.ref (v5)]) (S := []) (jv_dk t_X8_copy (k := 9) rfl) (fun _ => rfl) lk_X8_58 me_X3_copy mv_X3_copy ⟨by decide, by decide⟩ rfl rfl rfl (Nat.le_of_ble_eq_true rfl) (P_X3_copy X v4 v5 h3) (fun _ h6 => ?_)
  show jv_O X M_X8_copy _ jeV 22 [some (.ref (a0)), some (.ref (a1)), none, none, none] [] h6 _
  refine jv_aload_n (jv_dk t_X8_copy (k := 10) rfl) rfl rfl (Or.inr ⟨_, rfl⟩) ?_
  refine jv_gR (jv_dk t_X8_copy (k := 11) rfl) fl_X8_29 (fun v7 => ?_)
  refine jv_aload_n (jv_dk t_X8_copy (k := 12) rfl) rfl rfl (Or.inr ⟨_, rfl⟩) ?_
  refine jv_gR (jv_dk t_X8_copy (k := 13) rfl) fl_X8_29 (fun v8 => ?_)
  refine jv_callS (en' := jeV) (pv := jpV) (As := [.ref (v7), .ref (v8)]) (S := []) (jv_dk t_X8_copy (k := 14) rfl) (fun _ => rfl) lk_X8_61 me_X12_copyRow ms_X12_copyRow ⟨by decide, by decide⟩ rfl rfl (Nat.le_of_ble_eq_true rfl) (P_X12_copyRow X v7 v8 h6) (fun _ h9 => ?_)
  show jv_O X M_X8_copy _ jeV 33 [some (.ref (a0)), some (.ref (a1)), none, none, none] [] h9 _
  refine jv_aload_n (jv_dk t_X8_copy (k := 15) rfl) rfl rfl (Or.inr ⟨_, rfl⟩) ?_
  refine jv_aload_n (jv_dk t_X8_copy (k := 16) rfl) rfl rfl (Or.inr ⟨_, rfl⟩) ?_
  refine jv_gI (jv_dk t_X8_copy (k := 17) rfl) fl_X8_33 (fun v10 => ?_)
  refine jv_pV (jv_dk t_X8_copy (k := 18) rfl) fl_X8_33 kX8 (Or.inl rfl) rfl rfl rfl (fun h11 => ?_)
  refine jv_aload_n (jv_dk t_X8_copy (k := 19) rfl) rfl rfl (Or.inr ⟨_, rfl⟩) ?_
  refine jv_aload_n (jv_dk t_X8_copy (k := 20) rfl) rfl rfl (Or.inr ⟨_, rfl⟩) ?_
  refine jv_gI (jv_dk t_X8_copy (k := 21) rfl) fl_X8_37 (fun v12 => ?_)
  refine jv_pV (jv_dk t_X8_copy (k := 22) rfl) fl_X8_37 kX8 (Or.inl rfl) rfl rfl rfl (fun h13 => ?_)
  refine jv_aload_n (jv_dk t_X8_copy (k := 23) rfl) rfl rfl (Or.inr ⟨_, rfl⟩) ?_
  refine jv_gI (jv_dk t_X8_copy (k := 24) rfl) fl_X8_33 (fun v14 => ?_)
  refine jv_istore_n (L' := [some (.ref (a0)), some (.ref (a1)), some (.int (v14)), none, none]) (jv_dk t_X8_copy (k := 25) rfl) rfl (Nat.le_of_ble_eq_true rfl) rfl ?_
  refine jv_iconst (v := 0) (jv_dk t_X8_copy (k := 26) rfl) (by decide) ?_
  refine jv_istore_n (L' := [some (.ref (a0)), some (.ref (a1)), some (.int (v14)), some (.int (0)), none]) (jv_dk t_X8_copy (k := 27) rfl) rfl (Nat.le_of_ble_eq_true rfl) rfl ?_
  refine o_f_X8_copy_h56 (fun  h27 => ?_) _ _ _ _ _ 
  show jv_O X M_X8_copy _ jeV 104 [none, none, none, none, none] [] h27 _
  exact jv_vret (jv_dk t_X8_copy (k := 52) rfl) rfl rfl
def t0_X11_treeOf : List (Nat × Instr × Nat) := [(0, .iload_n 1, 1), (1, .tableswitch 51 0 2 #[27, 35, 43], 27), (28, .aload_n 0, 1), (29, .getfield 21, 3), (32, .getfield 52, 3), (35, .areturn, 1), (36, .aload_n 0, 1), (37, .getfield 28, 3), (40, .getfield 56, 3), (43, .areturn, 1), (44, .aload_n 0, 1), (45, .getfield 35, 3), (48, .getfield 57, 3), (51, .areturn, 1), (52, .aconst_null, 1), (53, .areturn, 1)]
theorem t_X11_treeOf : jv_dec cX11_treeOf t0_X11_treeOf = true := by decide +kernel
def M_X11_treeOf : jm := (yX11_treeOf, cX11_treeOf, 2, (some (.object "SpaceWarden$Tree")), 0, 0, [])
def f_X11_treeOf (a0 : Nat) (a1 : Int32) (h : jh) : Option (Option Nat × jh) :=
  (if a1 = 0 then
  gR h a0 9 1 fun v8 =>
  gR h v8 2 0 fun v9 =>
  some ((some v9), h)
  else
  (if a1 = 1 then
  gR h a0 9 2 fun v6 =>
  gR h v6 8 0 fun v7 =>
  some ((some v7), h)
  else
  (if a1 = 2 then
  gR h a0 9 3 fun v4 =>
  gR h v4 0 0 fun v5 =>
  some ((some v5), h)
  else
  some (none, h))))
theorem P_X11_treeOf (X : jx) (a0 : Nat) (a1 : Int32) (h : jh) : jv_P X M_X11_treeOf jeQ [.ref (a0), .int (a1)] h (f_X11_treeOf a0 a1 h) := by
  refine jv_P.of (by decide) rfl (by simp [Value.category]) (Nat.le_of_ble_eq_true rfl) ?_
  show jv_O X M_X11_treeOf (h.1, h.2.1) jeQ 0 [some (.ref (a0)), some (.int (a1))] [] h (f_X11_treeOf a0 a1 h)
  unfold f_X11_treeOf
  refine jv_iload_n (jv_dk t_X11_treeOf (k := 0) rfl) rfl rfl ?_
  by_cases c1 : a1 = 0
  · rw [if_pos c1]
    refine jv_tbl (tgt := 28) (jv_dk t_X11_treeOf (k := 1) rfl) (by rw [c1] <;> decide) (by rw [c1] <;> decide) (by rw [c1] <;> rfl) rfl ?_
    refine jv_aload_n (jv_dk t_X11_treeOf (k := 2) rfl) rfl rfl (Or.inr ⟨_, rfl⟩) ?_
    refine jv_gR (jv_dk t_X11_treeOf (k := 3) rfl) fl_X11_21 (fun v8 => ?_)
    refine jv_gR (jv_dk t_X11_treeOf (k := 4) rfl) fl_X11_52 (fun v9 => ?_)
    exact jv_aret (n := "SpaceWarden$Tree") (jv_dk t_X11_treeOf (k := 5) rfl) rfl (Or.inr ⟨_, rfl⟩) rfl
  rw [if_neg c1]
  by_cases c2 : a1 = 1
  · rw [if_pos c2]
    refine jv_tbl (tgt := 36) (jv_dk t_X11_treeOf (k := 1) rfl) (by rw [c2] <;> decide) (by rw [c2] <;> decide) (by rw [c2] <;> rfl) rfl ?_
    refine jv_aload_n (jv_dk t_X11_treeOf (k := 6) rfl) rfl rfl (Or.inr ⟨_, rfl⟩) ?_
    refine jv_gR (jv_dk t_X11_treeOf (k := 7) rfl) fl_X11_28 (fun v6 => ?_)
    refine jv_gR (jv_dk t_X11_treeOf (k := 8) rfl) fl_X11_56 (fun v7 => ?_)
    exact jv_aret (n := "SpaceWarden$Tree") (jv_dk t_X11_treeOf (k := 9) rfl) rfl (Or.inr ⟨_, rfl⟩) rfl
  rw [if_neg c2]
  by_cases c3 : a1 = 2
  · rw [if_pos c3]
    refine jv_tbl (tgt := 44) (jv_dk t_X11_treeOf (k := 1) rfl) (by rw [c3] <;> decide) (by rw [c3] <;> decide) (by rw [c3] <;> rfl) rfl ?_
    refine jv_aload_n (jv_dk t_X11_treeOf (k := 10) rfl) rfl rfl (Or.inr ⟨_, rfl⟩) ?_
    refine jv_gR (jv_dk t_X11_treeOf (k := 11) rfl) fl_X11_35 (fun v4 => ?_)
    refine jv_gR (jv_dk t_X11_treeOf (k := 12) rfl) fl_X11_57 (fun v5 => ?_)
    exact jv_aret (n := "SpaceWarden$Tree") (jv_dk t_X11_treeOf (k := 13) rfl) rfl (Or.inr ⟨_, rfl⟩) rfl
  rw [if_neg c3]
  have e_c1 := jv_ne (x := a1) (k := 0) (by decide) (by decide) c1
  have e_c2 := jv_ne (x := a1) (k := 1) (by decide) (by decide) c2
  have e_c3 := jv_ne (x := a1) (k := 2) (by decide) (by decide) c3
  refine jv_tblOut (tgt := 52) (jv_dk t_X11_treeOf (k := 1) rfl) (by omega) rfl ?_
  refine jv_null (jv_dk t_X11_treeOf (k := 14) rfl) ?_
  exact jv_aret (n := "SpaceWarden$Tree") (jv_dk t_X11_treeOf (k := 15) rfl) rfl (Or.inl rfl) rfl
def t0_X11_keeperOf : List (Nat × Instr × Nat) := [(0, .iload_n 1, 1), (1, .lookupswitch 47 #[(0, 27), (1, 37)], 27), (28, .aload_n 0, 1), (29, .getfield 21, 3), (32, .getfield 58, 3), (35, .iload_n 2, 1), (36, .iaload, 1), (37, .ireturn, 1), (38, .aload_n 0, 1), (39, .getfield 28, 3), (42, .getfield 62, 3), (45, .iload_n 2, 1), (46, .iaload, 1), (47, .ireturn, 1), (48, .aload_n 0, 1), (49, .getfield 35, 3), (52, .getfield 65, 3), (55, .iload_n 2, 1), (56, .iaload, 1), (57, .ireturn, 1)]
theorem t_X11_keeperOf : jv_dec cX11_keeperOf t0_X11_keeperOf = true := by decide +kernel
def M_X11_keeperOf : jm := (yX11_keeperOf, cX11_keeperOf, 3, (some .int), 0, 0, [])
def f_X11_keeperOf (a0 : Nat) (a1 : Int32) (a2 : Int32) (h : jh) : Option (Int32 × jh) :=
  (if a1 = 0 then
  gR h a0 9 1 fun v9 =>
  gR h v9 2 1 fun v10 =>
  aI h v10 a2 fun v11 =>
  some (v11, h)
  else
  (if a1 = 1 then
  gR h a0 9 2 fun v6 =>
  gR h v6 8 1 fun v7 =>
  aI h v7 a2 fun v8 =>
  some (v8, h)
  else
  gR h a0 9 3 fun v3 =>
  gR h v3 0 1 fun v4 =>
  aI h v4 a2 fun v5 =>
  some (v5, h)))
theorem P_X11_keeperOf (X : jx) (a0 : Nat) (a1 : Int32) (a2 : Int32) (h : jh) : jv_P X M_X11_keeperOf jeI [.ref (a0), .int (a1), .int (a2)] h (f_X11_keeperOf a0 a1 a2 h) := by
  refine jv_P.of (by decide) rfl (by simp [Value.category]) (Nat.le_of_ble_eq_true rfl) ?_
  show jv_O X M_X11_keeperOf (h.1, h.2.1) jeI 0 [some (.ref (a0)), some (.int (a1)), some (.int (a2))] [] h (f_X11_keeperOf a0 a1 a2 h)
  unfold f_X11_keeperOf
  refine jv_iload_n (jv_dk t_X11_keeperOf (k := 0) rfl) rfl rfl ?_
  by_cases c1 : a1 = 0
  · rw [if_pos c1]
    refine jv_lkp (tgt := 28) (jv_dk t_X11_keeperOf (k := 1) rfl) (by decide) (by rw [c1] <;> rfl) rfl ?_
    refine jv_aload_n (jv_dk t_X11_keeperOf (k := 2) rfl) rfl rfl (Or.inr ⟨_, rfl⟩) ?_
    refine jv_gR (jv_dk t_X11_keeperOf (k := 3) rfl) fl_X11_21 (fun v9 => ?_)
    refine jv_gR (jv_dk t_X11_keeperOf (k := 4) rfl) fl_X11_58 (fun v10 => ?_)
    refine jv_iload_n (jv_dk t_X11_keeperOf (k := 5) rfl) rfl rfl ?_
    refine jv_iaload (jv_dk t_X11_keeperOf (k := 6) rfl) (fun v11 => ?_)
    exact jv_iret (ty := .int) (jv_dk t_X11_keeperOf (k := 7) rfl) rfl rfl rfl
  rw [if_neg c1]
  by_cases c2 : a1 = 1
  · rw [if_pos c2]
    refine jv_lkp (tgt := 38) (jv_dk t_X11_keeperOf (k := 1) rfl) (by decide) (by rw [c2] <;> rfl) rfl ?_
    refine jv_aload_n (jv_dk t_X11_keeperOf (k := 8) rfl) rfl rfl (Or.inr ⟨_, rfl⟩) ?_
    refine jv_gR (jv_dk t_X11_keeperOf (k := 9) rfl) fl_X11_28 (fun v6 => ?_)
    refine jv_gR (jv_dk t_X11_keeperOf (k := 10) rfl) fl_X11_62 (fun v7 => ?_)
    refine jv_iload_n (jv_dk t_X11_keeperOf (k := 11) rfl) rfl rfl ?_
    refine jv_iaload (jv_dk t_X11_keeperOf (k := 12) rfl) (fun v8 => ?_)
    exact jv_iret (ty := .int) (jv_dk t_X11_keeperOf (k := 13) rfl) rfl rfl rfl
  rw [if_neg c2]
  have e_c1 := jv_ne (x := a1) (k := 0) (by decide) (by decide) c1
  have e_c2 := jv_ne (x := a1) (k := 1) (by decide) (by decide) c2
  refine jv_lkp (tgt := 48) (jv_dk t_X11_keeperOf (k := 1) rfl) (by decide) (jv_lk2 e_c1 e_c2) rfl ?_
  refine jv_aload_n (jv_dk t_X11_keeperOf (k := 14) rfl) rfl rfl (Or.inr ⟨_, rfl⟩) ?_
  refine jv_gR (jv_dk t_X11_keeperOf (k := 15) rfl) fl_X11_35 (fun v3 => ?_)
  refine jv_gR (jv_dk t_X11_keeperOf (k := 16) rfl) fl_X11_65 (fun v4 => ?_)
  refine jv_iload_n (jv_dk t_X11_keeperOf (k := 17) rfl) rfl rfl ?_
  refine jv_iaload (jv_dk t_X11_keeperOf (k := 18) rfl) (fun v5 => ?_)
  exact jv_iret (ty := .int) (jv_dk t_X11_keeperOf (k := 19) rfl) rfl rfl rfl
def t0_X11_contentOf : List (Nat × Instr × Nat) := [(0, .iload_n 1, 1), (1, .lookupswitch 46 #[(0, 27), (1, 36)], 27), (28, .aload_n 0, 1), (29, .getfield 21, 3), (32, .iload_n 2, 1), (33, .invokevirtual 66, 3), (36, .ireturn, 1), (37, .aload_n 0, 1), (38, .getfield 28, 3), (41, .getfield 70, 3), (44, .iload_n 2, 1), (45, .iaload, 1), (46, .ireturn, 1), (47, .aload_n 0, 1), (48, .getfield 35, 3), (51, .iload_n 2, 1), (52, .invokevirtual 73, 3), (55, .ireturn, 1)]
theorem t_X11_contentOf : jv_dec cX11_contentOf t0_X11_contentOf = true := by decide +kernel
def M_X11_contentOf : jm := (yX11_contentOf, cX11_contentOf, 3, (some .int), 2, 42, [])
theorem lk_X11_73 : jv_lk RX11 73 M_X2_placesInUse := Or.inr ⟨"SpaceWarden", (jv_at 1174 (by decide +kernel))⟩
set_option maxRecDepth 20000 in
theorem me_X2_placesInUse : jv_me M_X2_placesInUse 1 := ⟨(jv_in5 (List.mem_of_getElem? (i := 57) rfl)), (jv_at 168 (by decide +kernel)), ⟨by decide, by decide⟩, by decide +kernel⟩
theorem mv_X2_placesInUse : jv_mv M_X2_placesInUse := ⟨(jv_at 1176 (by decide +kernel)), (jv_at 82 (by decide +kernel))⟩
def f_X11_contentOf (a0 : Nat) (a1 : Int32) (a2 : Int32) (h : jh) : Option (Int32 × jh) :=
  (if a1 = 0 then
  gR h a0 9 1 fun v9 =>
  cV h v9 2 (f_X4_livingInit v9 a2 h) fun v10 h11 =>
  some (v10, h11)
  else
  (if a1 = 1 then
  gR h a0 9 2 fun v6 =>
  gR h v6 8 2 fun v7 =>
  aI h v7 a2 fun v8 =>
  some (v8, h)
  else
  gR h a0 9 3 fun v3 =>
  cV h v3 0 (f_X2_placesInUse v3 a2 h) fun v4 h5 =>
  some (v4, h5)))
theorem P_X11_contentOf (X : jx) (a0 : Nat) (a1 : Int32) (a2 : Int32) (h : jh) : jv_P X M_X11_contentOf jeI [.ref (a0), .int (a1), .int (a2)] h (f_X11_contentOf a0 a1 a2 h) := by
  refine jv_P.of (by decide) rfl (by simp [Value.category]) (Nat.le_of_ble_eq_true rfl) ?_
  show jv_O X M_X11_contentOf (h.1, h.2.1) jeI 0 [some (.ref (a0)), some (.int (a1)), some (.int (a2))] [] h (f_X11_contentOf a0 a1 a2 h)
  unfold f_X11_contentOf
  refine jv_iload_n (jv_dk t_X11_contentOf (k := 0) rfl) rfl rfl ?_
  by_cases c1 : a1 = 0
  · rw [if_pos c1]
    refine jv_lkp (tgt := 28) (jv_dk t_X11_contentOf (k := 1) rfl) (by decide) (by rw [c1] <;> rfl) rfl ?_
    refine jv_aload_n (jv_dk t_X11_contentOf (k := 2) rfl) rfl rfl (Or.inr ⟨_, rfl⟩) ?_
    refine jv_gR (jv_dk t_X11_contentOf (k := 3) rfl) fl_X11_21 (fun v9 => ?_)
    refine jv_iload_n (jv_dk t_X11_contentOf (k := 4) rfl) rfl rfl ?_
    refine jv_callV (en' := jeI) (pv := jpI) (As := [.int (a2)]) (S := []) (jv_dk t_X11_contentOf (k := 5) rfl) (fun _ => rfl) lk_X11_66 me_X4_livingInit mv_X4_livingInit ⟨by decide, by decide⟩ rfl rfl rfl (Nat.le_of_ble_eq_true rfl) (P_X4_livingInit X v9 a2 h) (fun v10 h11 => ?_)
    show jv_O X M_X11_contentOf _ jeI 36 [some (.ref (a0)), some (.int (a1)), some (.int (a2))] [.int (v10)] h11 _
    exact jv_iret (ty := .int) (jv_dk t_X11_contentOf (k := 6) rfl) rfl rfl rfl
  rw [if_neg c1]
  by_cases c2 : a1 = 1
  · rw [if_pos c2]
    refine jv_lkp (tgt := 37) (jv_dk t_X11_contentOf (k := 1) rfl) (by decide) (by rw [c2] <;> rfl) rfl ?_
    refine jv_aload_n (jv_dk t_X11_contentOf (k := 7) rfl) rfl rfl (Or.inr ⟨_, rfl⟩) ?_
    refine jv_gR (jv_dk t_X11_contentOf (k := 8) rfl) fl_X11_28 (fun v6 => ?_)
    refine jv_gR (jv_dk t_X11_contentOf (k := 9) rfl) fl_X11_70 (fun v7 => ?_)
    refine jv_iload_n (jv_dk t_X11_contentOf (k := 10) rfl) rfl rfl ?_
    refine jv_iaload (jv_dk t_X11_contentOf (k := 11) rfl) (fun v8 => ?_)
    exact jv_iret (ty := .int) (jv_dk t_X11_contentOf (k := 12) rfl) rfl rfl rfl
  rw [if_neg c2]
  have e_c1 := jv_ne (x := a1) (k := 0) (by decide) (by decide) c1
  have e_c2 := jv_ne (x := a1) (k := 1) (by decide) (by decide) c2
  refine jv_lkp (tgt := 47) (jv_dk t_X11_contentOf (k := 1) rfl) (by decide) (jv_lk2 e_c1 e_c2) rfl ?_
  refine jv_aload_n (jv_dk t_X11_contentOf (k := 13) rfl) rfl rfl (Or.inr ⟨_, rfl⟩) ?_
  refine jv_gR (jv_dk t_X11_contentOf (k := 14) rfl) fl_X11_35 (fun v3 => ?_)
  refine jv_iload_n (jv_dk t_X11_contentOf (k := 15) rfl) rfl rfl ?_
  refine jv_callV (en' := jeI) (pv := jpI) (As := [.int (a2)]) (S := []) (jv_dk t_X11_contentOf (k := 16) rfl) (fun _ => rfl) lk_X11_73 me_X2_placesInUse mv_X2_placesInUse ⟨by decide, by decide⟩ rfl rfl rfl (Nat.le_of_ble_eq_true rfl) (P_X2_placesInUse X v3 a2 h) (fun v4 h5 => ?_)
  show jv_O X M_X11_contentOf _ jeI 55 [some (.ref (a0)), some (.int (a1)), some (.int (a2))] [.int (v4)] h5 _
  exact jv_iret (ty := .int) (jv_dk t_X11_contentOf (k := 17) rfl) rfl rfl rfl
def t0_X11_reachOf : List (Nat × Instr × Nat) := [(0, .iconst 0, 1), (1, .istore_n 2, 1), (2, .iconst 0, 1), (3, .istore_n 3, 1), (4, .iload_n 3, 1), (5, .bipush 16, 2), (7, .if_icmp .ge 24, 3), (10, .aload_n 0, 1), (11, .iload_n 1, 1), (12, .iload_n 3, 1), (13, .invokevirtual 121, 3), (16, .ifCond .eq 9, 3), (19, .iload_n 2, 1), (20, .iconst 1, 1), (21, .iload_n 3, 1), (22, .ishl, 1), (23, .ior, 1), (24, .istore_n 2, 1), (25, .iinc 3 1, 3), (28, .goto (-24), 3), (31, .iload_n 2, 1), (32, .ireturn, 1)]
theorem t_X11_reachOf : jv_dec cX11_reachOf t0_X11_reachOf = true := by decide +kernel
def M_X11_reachOf : jm := (yX11_reachOf, cX11_reachOf, 4, (some .int), 4, 92, [])
def f_X11_reachOf_h4 (K4 : Int32 → jh → Option (Int32 × jh)) (R4 : Nat → Int32 → Int32 → Int32 → jh → Option (Int32 × jh)) (x0 : Nat) (x1 : Int32) (x2 : Int32) (x3 : Int32) (h : jh) : Option (Int32 × jh) :=
  (if 16 ≤ x3 then
  K4 x2 h
  else
  cV h x0 9 (f_X11_canKill x0 x1 x3 h) fun v2 h3 =>
  (if v2 = 0 then
  R4 x0 x1 x2 (x3 + 1) h3
  else
  R4 x0 x1 (x2 ||| (1 <<< (x3 &&& 31))) (x3 + 1) h3))
theorem o_f_X11_reachOf_h4 {X : jx} {b0 : Nat × Nat} {K4 : Int32 → jh → Option (Int32 × jh)} (hK4 : ∀ (x2 : Int32) (h : jh), jv_O X M_X11_reachOf b0 jeI 31 [none, none, some (.int (x2)), none] [] h (K4 x2 h)) : ∀ (x0 : Nat) (x1 : Int32) (x2 : Int32) (x3 : Int32) (h : jh), jv_O X M_X11_reachOf b0 jeI 4 [some (.ref (x0)), some (.int (x1)), some (.int (x2)), some (.int (x3))] [] h (jlp4 (f_X11_reachOf_h4 K4) jfu x0 x1 x2 x3 h) := by
  refine jlp4_ok (P := fun x0 x1 x2 x3 h o => jv_O X M_X11_reachOf b0 jeI 4 [some (.ref (x0)), some (.int (x1)), some (.int (x2)), some (.int (x3))] [] h o) (fun R4 hR4 => ?_) (fun _ _ _ _ _  => jv_none rfl) jfu
  intro x0 x1 x2 x3 h
  unfold f_X11_reachOf_h4
  refine jv_iload_n (jv_dk t_X11_reachOf (k := 4) rfl) rfl rfl ?_
  refine jv_bipush (v := 16) (jv_dk t_X11_reachOf (k := 5) rfl) (by decide) ?_
  refine jv_icmp_ge (tgt := 31) (jv_dk t_X11_reachOf (k := 6) rfl) rfl (fun c1 => ?_) (fun c1 => ?_)
  · refine jv_le_row (jv_le_n (jv_le_n (jv_le_s (jv_le_n (jv_le_nil))))) ?_
    exact hK4 _ _ 
  · show jv_O _ _ _ _ 10 _ _ _ _
    refine jv_aload_n (jv_dk t_X11_reachOf (k := 7) rfl) rfl rfl (Or.inr ⟨_, rfl⟩) ?_
    refine jv_iload_n (jv_dk t_X11_reachOf (k := 8) rfl) rfl rfl ?_
    refine jv_iload_n (jv_dk t_X11_reachOf (k := 9) rfl) rfl rfl ?_
    refine jv_callV (en' := jeI) (pv := jpI) (As := [.int (x1), .int (x3)]) (S := []) (jv_dk t_X11_reachOf (k := 10) rfl) (fun _ => rfl) (Or.inl lk_X11_121) me_X11_canKill mv_X11_canKill ⟨by decide, by decide⟩ rfl rfl rfl (Nat.le_of_ble_eq_true rfl) (P_X11_canKill X x0 x1 x3 h) (fun v2 h3 => ?_)
    show jv_O X M_X11_reachOf _ jeI 16 [some (.ref (x0)), some (.int (x1)), some (.int (x2)), some (.int (x3))] [.int (v2)] h3 _
    refine jv_if_eq (tgt := 25) (jv_dk t_X11_reachOf (k := 11) rfl) rfl (fun c4 => ?_) (fun c4 => ?_)
    · refine jv_iinc (v := 1) (L' := [some (.ref (x0)), some (.int (x1)), some (.int (x2)), some (.int (x3 + 1))]) (jv_dk t_X11_reachOf (k := 18) rfl) rfl (by decide) rfl ?_
      refine jv_goto (tgt := 4) (jv_dk t_X11_reachOf (k := 19) rfl) rfl ?_
      exact hR4 _ _ _ _ _ 
    · show jv_O _ _ _ _ 19 _ _ _ _
      refine jv_iload_n (jv_dk t_X11_reachOf (k := 12) rfl) rfl rfl ?_
      refine jv_iconst (v := 1) (jv_dk t_X11_reachOf (k := 13) rfl) (by decide) ?_
      refine jv_iload_n (jv_dk t_X11_reachOf (k := 14) rfl) rfl rfl ?_
      refine jv_ishl (jv_dk t_X11_reachOf (k := 15) rfl) ?_
      refine jv_ior (jv_dk t_X11_reachOf (k := 16) rfl) ?_
      refine jv_istore_n (L' := [some (.ref (x0)), some (.int (x1)), some (.int (x2 ||| (1 <<< (x3 &&& 31)))), some (.int (x3))]) (jv_dk t_X11_reachOf (k := 17) rfl) rfl (Nat.le_of_ble_eq_true rfl) rfl ?_
      refine jv_iinc (v := 1) (L' := [some (.ref (x0)), some (.int (x1)), some (.int (x2 ||| (1 <<< (x3 &&& 31)))), some (.int (x3 + 1))]) (jv_dk t_X11_reachOf (k := 18) rfl) rfl (by decide) rfl ?_
      refine jv_goto (tgt := 4) (jv_dk t_X11_reachOf (k := 19) rfl) rfl ?_
      exact hR4 _ _ _ _ _ 
def f_X11_reachOf (a0 : Nat) (a1 : Int32) (h : jh) : Option (Int32 × jh) :=
  jlp4 (f_X11_reachOf_h4 (fun y6 h5 =>
  some (y6, h5))) jfu a0 a1 0 0 h
theorem P_X11_reachOf (X : jx) (a0 : Nat) (a1 : Int32) (h : jh) : jv_P X M_X11_reachOf jeI [.ref (a0), .int (a1)] h (f_X11_reachOf a0 a1 h) := by
  refine jv_P.of (by decide) rfl (by simp [Value.category]) (Nat.le_of_ble_eq_true rfl) ?_
  show jv_O X M_X11_reachOf (h.1, h.2.1) jeI 0 [some (.ref (a0)), some (.int (a1)), none, none] [] h (f_X11_reachOf a0 a1 h)
  unfold f_X11_reachOf
  refine jv_iconst (v := 0) (jv_dk t_X11_reachOf (k := 0) rfl) (by decide) ?_
  refine jv_istore_n (L' := [some (.ref (a0)), some (.int (a1)), some (.int (0)), none]) (jv_dk t_X11_reachOf (k := 1) rfl) rfl (Nat.le_of_ble_eq_true rfl) rfl ?_
  refine jv_iconst (v := 0) (jv_dk t_X11_reachOf (k := 2) rfl) (by decide) ?_
  refine jv_istore_n (L' := [some (.ref (a0)), some (.int (a1)), some (.int (0)), some (.int (0))]) (jv_dk t_X11_reachOf (k := 3) rfl) rfl (Nat.le_of_ble_eq_true rfl) rfl ?_
  refine o_f_X11_reachOf_h4 (fun y6 h5 => ?_) _ _ _ _ _ 
  show jv_O X M_X11_reachOf _ jeI 31 [none, none, some (.int (y6)), none] [] h5 _
  refine jv_iload_n (jv_dk t_X11_reachOf (k := 20) rfl) rfl rfl ?_
  exact jv_iret (ty := .int) (jv_dk t_X11_reachOf (k := 21) rfl) rfl rfl rfl
def t0_X11_lesserSide : List (Nat × Instr × Nat) := [(0, .aload_n 0, 1), (1, .getfield 12, 3), (4, .iload_n 2, 1), (5, .iload_n 3, 1), (6, .invokevirtual 274, 3), (9, .istore 4, 2), (11, .iconst 0, 1), (12, .istore 5, 2), (14, .iconst 0, 1), (15, .istore 6, 2), (17, .iconst 1, 1), (18, .istore 7, 2), (20, .iload 7, 2), (22, .bipush 16, 2), (24, .if_icmp .ge 47, 3), (27, .iload_n 1, 1), (28, .iload 7, 2), (30, .invokestatic 253, 3), (33, .ifCond .eq 32, 3), (36, .iload 4, 2), (38, .iconst (-1), 1), (39, .if_icmp .eq 23, 3), (42, .aload_n 0, 1), (43, .iload 7, 2), (45, .invokevirtual 250, 3), (48, .iload 4, 2), (50, .invokestatic 253, 3), (53, .ifCond .ne 9, 3), (56, .iinc 5 1, 3), (59, .goto 6, 3), (62, .iinc 6 1, 3), (65, .iinc 7 1, 3), (68, .goto (-48), 3), (71, .iload 5, 2), (73, .iload 6, 2), (75, .invokestatic 277, 3), (78, .ireturn, 1)]
theorem t_X11_lesserSide : jv_dec cX11_lesserSide t0_X11_lesserSide = true := by decide +kernel
def M_X11_lesserSide : jm := (yX11_lesserSide, cX11_lesserSide, 8, (some .int), 3, 68, [])
theorem lk_X11_274 : jv_lk RX11 274 M_X5_holderOf := Or.inr ⟨"SpaceWarden", (jv_at 1312 (by decide +kernel))⟩
theorem mt_X11_277 : Cond.methodLink RX11 277 Lib.Math.min.name ∈ lw_tbl := (jv_at 1313 (by decide +kernel))
def f_X11_lesserSide_h20 (K20 : Int32 → Int32 → jh → Option (Int32 × jh)) (R20 : Nat → Int32 → Int32 → Int32 → Int32 → Int32 → jh → Option (Int32 × jh)) (x0 : Nat) (x1 : Int32) (x4 : Int32) (x5 : Int32) (x6 : Int32) (x7 : Int32) (h : jh) : Option (Int32 × jh) :=
  (if 16 ≤ x7 then
  K20 x5 x6 h
  else
  bd (f_X12_holds x1 x7 h) fun v5 h6 =>
  (if v5 = 0 then
  R20 x0 x1 x4 x5 x6 (x7 + 1) h6
  else
  (if x4 = (-1) then
  R20 x0 x1 x4 x5 (x6 + 1) (x7 + 1) h6
  else
  cV h6 x0 9 (f_X11_fallOf x0 x7 h6) fun v9 h10 =>
  bd (f_X12_holds v9 x4 h10) fun v11 h12 =>
  (if ¬ v11 = 0 then
  R20 x0 x1 x4 x5 (x6 + 1) (x7 + 1) h12
  else
  R20 x0 x1 x4 (x5 + 1) x6 (x7 + 1) h12))))
theorem o_f_X11_lesserSide_h20 {X : jx} {b0 : Nat × Nat} {K20 : Int32 → Int32 → jh → Option (Int32 × jh)} (hK20 : ∀ (x5 : Int32) (x6 : Int32) (h : jh), jv_O X M_X11_lesserSide b0 jeI 71 [none, none, none, none, none, some (.int (x5)), some (.int (x6)), none] [] h (K20 x5 x6 h)) : ∀ (x0 : Nat) (x1 : Int32) (x4 : Int32) (x5 : Int32) (x6 : Int32) (x7 : Int32) (h : jh), jv_O X M_X11_lesserSide b0 jeI 20 [some (.ref (x0)), some (.int (x1)), none, none, some (.int (x4)), some (.int (x5)), some (.int (x6)), some (.int (x7))] [] h (jlp6 (f_X11_lesserSide_h20 K20) jfu x0 x1 x4 x5 x6 x7 h) := by
  refine jlp6_ok (P := fun x0 x1 x4 x5 x6 x7 h o => jv_O X M_X11_lesserSide b0 jeI 20 [some (.ref (x0)), some (.int (x1)), none, none, some (.int (x4)), some (.int (x5)), some (.int (x6)), some (.int (x7))] [] h o) (fun R20 hR20 => ?_) (fun _ _ _ _ _ _ _  => jv_none rfl) jfu
  intro x0 x1 x4 x5 x6 x7 h
  unfold f_X11_lesserSide_h20
  refine jv_iload (jv_dk t_X11_lesserSide (k := 12) rfl) rfl ?_
  refine jv_bipush (v := 16) (jv_dk t_X11_lesserSide (k := 13) rfl) (by decide) ?_
  refine jv_icmp_ge (tgt := 71) (jv_dk t_X11_lesserSide (k := 14) rfl) rfl (fun c4 => ?_) (fun c4 => ?_)
  · refine jv_le_row (jv_le_n (jv_le_n (jv_le_n (jv_le_n (jv_le_n (jv_le_s (jv_le_s (jv_le_n (jv_le_nil))))))))) ?_
    exact hK20 _ _ _ 
  · show jv_O _ _ _ _ 27 _ _ _ _
    refine jv_iload_n (jv_dk t_X11_lesserSide (k := 15) rfl) rfl rfl ?_
    refine jv_iload (jv_dk t_X11_lesserSide (k := 16) rfl) rfl ?_
    refine jv_callS (en' := jeI) (pv := jpI) (As := [.int (x1), .int (x7)]) (S := []) (jv_dk t_X11_lesserSide (k := 17) rfl) (fun _ => rfl) lk_X11_253 me_X12_holds ms_X12_holds ⟨by decide, by decide⟩ rfl rfl (Nat.le_of_ble_eq_true rfl) (P_X12_holds X x1 x7 h) (fun v5 h6 => ?_)
    show jv_O X M_X11_lesserSide _ jeI 33 [some (.ref (x0)), some (.int (x1)), none, none, some (.int (x4)), some (.int (x5)), some (.int (x6)), some (.int (x7))] [.int (v5)] h6 _
    refine jv_if_eq (tgt := 65) (jv_dk t_X11_lesserSide (k := 18) rfl) rfl (fun c7 => ?_) (fun c7 => ?_)
    · refine jv_iinc (v := 1) (L' := [some (.ref (x0)), some (.int (x1)), none, none, some (.int (x4)), some (.int (x5)), some (.int (x6)), some (.int (x7 + 1))]) (jv_dk t_X11_lesserSide (k := 31) rfl) rfl (by decide) rfl ?_
      refine jv_goto (tgt := 20) (jv_dk t_X11_lesserSide (k := 32) rfl) rfl ?_
      exact hR20 _ _ _ _ _ _ _ 
    · show jv_O _ _ _ _ 36 _ _ _ _
      refine jv_iload (jv_dk t_X11_lesserSide (k := 19) rfl) rfl ?_
      refine jv_iconst (v := (-1)) (jv_dk t_X11_lesserSide (k := 20) rfl) (by decide) ?_
      refine jv_icmp_eq (tgt := 62) (jv_dk t_X11_lesserSide (k := 21) rfl) rfl (fun c8 => ?_) (fun c8 => ?_)
      · refine jv_iinc (v := 1) (L' := [some (.ref (x0)), some (.int (x1)), none, none, some (.int (x4)), some (.int (x5)), some (.int (x6 + 1)), some (.int (x7))]) (jv_dk t_X11_lesserSide (k := 30) rfl) rfl (by decide) rfl ?_
        refine jv_iinc (v := 1) (L' := [some (.ref (x0)), some (.int (x1)), none, none, some (.int (x4)), some (.int (x5)), some (.int (x6 + 1)), some (.int (x7 + 1))]) (jv_dk t_X11_lesserSide (k := 31) rfl) rfl (by decide) rfl ?_
        refine jv_goto (tgt := 20) (jv_dk t_X11_lesserSide (k := 32) rfl) rfl ?_
        exact hR20 _ _ _ _ _ _ _ 
      · show jv_O _ _ _ _ 42 _ _ _ _
        refine jv_aload_n (jv_dk t_X11_lesserSide (k := 22) rfl) rfl rfl (Or.inr ⟨_, rfl⟩) ?_
        refine jv_iload (jv_dk t_X11_lesserSide (k := 23) rfl) rfl ?_
        refine jv_callV (en' := jeI) (pv := jpI) (As := [.int (x7)]) (S := []) (jv_dk t_X11_lesserSide (k := 24) rfl) (fun _ => rfl) (Or.inl lk_X11_250) me_X11_fallOf mv_X11_fallOf ⟨by decide, by decide⟩ rfl rfl rfl (Nat.le_of_ble_eq_true rfl) (P_X11_fallOf X x0 x7 h6) (fun v9 h10 => ?_)
        show jv_O X M_X11_lesserSide _ jeI 48 [some (.ref (x0)), some (.int (x1)), none, none, some (.int (x4)), some (.int (x5)), some (.int (x6)), some (.int (x7))] [.int (v9)] h10 _
        refine jv_iload (jv_dk t_X11_lesserSide (k := 25) rfl) rfl ?_
        refine jv_callS (en' := jeI) (pv := jpI) (As := [.int (v9), .int (x4)]) (S := []) (jv_dk t_X11_lesserSide (k := 26) rfl) (fun _ => rfl) lk_X11_253 me_X12_holds ms_X12_holds ⟨by decide, by decide⟩ rfl rfl (Nat.le_of_ble_eq_true rfl) (P_X12_holds X v9 x4 h10) (fun v11 h12 => ?_)
        show jv_O X M_X11_lesserSide _ jeI 53 [some (.ref (x0)), some (.int (x1)), none, none, some (.int (x4)), some (.int (x5)), some (.int (x6)), some (.int (x7))] [.int (v11)] h12 _
        refine jv_if_ne (tgt := 62) (jv_dk t_X11_lesserSide (k := 27) rfl) rfl (fun c13 => ?_) (fun c13 => ?_)
        · refine jv_iinc (v := 1) (L' := [some (.ref (x0)), some (.int (x1)), none, none, some (.int (x4)), some (.int (x5)), some (.int (x6 + 1)), some (.int (x7))]) (jv_dk t_X11_lesserSide (k := 30) rfl) rfl (by decide) rfl ?_
          refine jv_iinc (v := 1) (L' := [some (.ref (x0)), some (.int (x1)), none, none, some (.int (x4)), some (.int (x5)), some (.int (x6 + 1)), some (.int (x7 + 1))]) (jv_dk t_X11_lesserSide (k := 31) rfl) rfl (by decide) rfl ?_
          refine jv_goto (tgt := 20) (jv_dk t_X11_lesserSide (k := 32) rfl) rfl ?_
          exact hR20 _ _ _ _ _ _ _ 
        · show jv_O _ _ _ _ 56 _ _ _ _
          refine jv_iinc (v := 1) (L' := [some (.ref (x0)), some (.int (x1)), none, none, some (.int (x4)), some (.int (x5 + 1)), some (.int (x6)), some (.int (x7))]) (jv_dk t_X11_lesserSide (k := 28) rfl) rfl (by decide) rfl ?_
          refine jv_goto (tgt := 65) (jv_dk t_X11_lesserSide (k := 29) rfl) rfl ?_
          refine jv_iinc (v := 1) (L' := [some (.ref (x0)), some (.int (x1)), none, none, some (.int (x4)), some (.int (x5 + 1)), some (.int (x6)), some (.int (x7 + 1))]) (jv_dk t_X11_lesserSide (k := 31) rfl) rfl (by decide) rfl ?_
          refine jv_goto (tgt := 20) (jv_dk t_X11_lesserSide (k := 32) rfl) rfl ?_
          exact hR20 _ _ _ _ _ _ _ 
def f_X11_lesserSide (a0 : Nat) (a1 : Int32) (a2 : Int32) (a3 : Int32) (h : jh) : Option (Int32 × jh) :=
  gR h a0 9 0 fun v1 =>
  cV h v1 3 (f_X5_holderOf v1 a2 a3 h) fun v2 h3 =>
  jlp6 (f_X11_lesserSide_h20 (fun y15 y16 h14 =>
  lt1 (if y16 < y15 then y16 else y15) fun v17 =>
  some (v17, h14))) jfu a0 a1 v2 0 0 1 h3
theorem P_X11_lesserSide (X : jx) (a0 : Nat) (a1 : Int32) (a2 : Int32) (a3 : Int32) (h : jh) : jv_P X M_X11_lesserSide jeI [.ref (a0), .int (a1), .int (a2), .int (a3)] h (f_X11_lesserSide a0 a1 a2 a3 h) := by
  refine jv_P.of (by decide) rfl (by simp [Value.category]) (Nat.le_of_ble_eq_true rfl) ?_
  show jv_O X M_X11_lesserSide (h.1, h.2.1) jeI 0 [some (.ref (a0)), some (.int (a1)), some (.int (a2)), some (.int (a3)), none, none, none, none] [] h (f_X11_lesserSide a0 a1 a2 a3 h)
  unfold f_X11_lesserSide
  refine jv_aload_n (jv_dk t_X11_lesserSide (k := 0) rfl) rfl rfl (Or.inr ⟨_, rfl⟩) ?_
  refine jv_gR (jv_dk t_X11_lesserSide (k := 1) rfl) fl_X11_12 (fun v1 => ?_)
  refine jv_iload_n (jv_dk t_X11_lesserSide (k := 2) rfl) rfl rfl ?_
  refine jv_iload_n (jv_dk t_X11_lesserSide (k := 3) rfl) rfl rfl ?_
  refine jv_callV (en' := jeI) (pv := jpI) (As := [.int (a2), .int (a3)]) (S := []) (jv_dk t_X11_lesserSide (k := 4) rfl) (fun _ => rfl) lk_X11_274 me_X5_holderOf mv_X5_holderOf ⟨by decide, by decide⟩ rfl rfl rfl (Nat.le_of_ble_eq_true rfl) (P_X5_holderOf X v1 a2 a3 h) (fun v2 h3 => ?_)
  show jv_O X M_X11_lesserSide _ jeI 9 [some (.ref (a0)), some (.int (a1)), some (.int (a2)), some (.int (a3)), none, none, none, none] [.int (v2)] h3 _
  refine jv_istore (L' := [some (.ref (a0)), some (.int (a1)), some (.int (a2)), some (.int (a3)), some (.int (v2)), none, none, none]) (jv_dk t_X11_lesserSide (k := 5) rfl) (Nat.le_of_ble_eq_true rfl) rfl ?_
  refine jv_iconst (v := 0) (jv_dk t_X11_lesserSide (k := 6) rfl) (by decide) ?_
  refine jv_istore (L' := [some (.ref (a0)), some (.int (a1)), some (.int (a2)), some (.int (a3)), some (.int (v2)), some (.int (0)), none, none]) (jv_dk t_X11_lesserSide (k := 7) rfl) (Nat.le_of_ble_eq_true rfl) rfl ?_
  refine jv_iconst (v := 0) (jv_dk t_X11_lesserSide (k := 8) rfl) (by decide) ?_
  refine jv_istore (L' := [some (.ref (a0)), some (.int (a1)), some (.int (a2)), some (.int (a3)), some (.int (v2)), some (.int (0)), some (.int (0)), none]) (jv_dk t_X11_lesserSide (k := 9) rfl) (Nat.le_of_ble_eq_true rfl) rfl ?_
  refine jv_iconst (v := 1) (jv_dk t_X11_lesserSide (k := 10) rfl) (by decide) ?_
  refine jv_istore (L' := [some (.ref (a0)), some (.int (a1)), some (.int (a2)), some (.int (a3)), some (.int (v2)), some (.int (0)), some (.int (0)), some (.int (1))]) (jv_dk t_X11_lesserSide (k := 11) rfl) (Nat.le_of_ble_eq_true rfl) rfl ?_
  refine jv_le_row (jv_le_s (jv_le_s (jv_le_n (jv_le_n (jv_le_s (jv_le_s (jv_le_s (jv_le_s (jv_le_nil))))))))) ?_
  refine o_f_X11_lesserSide_h20 (fun y15 y16 h14 => ?_) _ _ _ _ _ _ _ 
  show jv_O X M_X11_lesserSide _ jeI 71 [none, none, none, none, none, some (.int (y15)), some (.int (y16)), none] [] h14 _
  refine jv_iload (jv_dk t_X11_lesserSide (k := 33) rfl) rfl ?_
  refine jv_iload (jv_dk t_X11_lesserSide (k := 34) rfl) rfl ?_
  refine jv_lt1 (fun v17 e_v17 => ?_)
  refine jv_mmin (jv_dk t_X11_lesserSide (k := 35) rfl) mt_X11_277 (Nat.le_of_ble_eq_true rfl) ⟨by decide, by decide⟩ ?_
  rw [← e_v17]
  exact jv_iret (ty := .int) (jv_dk t_X11_lesserSide (k := 36) rfl) rfl rfl rfl
def t0_X11_deepestNumberSpace : List (Nat × Instr × Nat) := [(0, .iconst 0, 1), (1, .istore_n 1, 1), (2, .iconst 0, 1), (3, .istore_n 2, 1), (4, .iload_n 2, 1), (5, .bipush 16, 2), (7, .if_icmp .ge 44, 3), (10, .aload_n 0, 1), (11, .getfield 12, 3), (14, .iload_n 2, 1), (15, .invokevirtual 76, 3), (18, .ifCond .eq 27, 3), (21, .iload_n 1, 1), (22, .aload_n 0, 1), (23, .getfield 21, 3), (26, .getfield 52, 3), (29, .aload_n 0, 1), (30, .getfield 12, 3), (33, .getfield 131, 3), (36, .iload_n 2, 1), (37, .iaload, 1), (38, .invokevirtual 280, 3), (41, .invokestatic 269, 3), (44, .istore_n 1, 1), (45, .iinc 2 1, 3), (48, .goto (-44), 3), (51, .iload_n 1, 1), (52, .ireturn, 1)]
theorem t_X11_deepestNumberSpace : jv_dec cX11_deepestNumberSpace t0_X11_deepestNumberSpace = true := by decide +kernel
def M_X11_deepestNumberSpace : jm := (yX11_deepestNumberSpace, cX11_deepestNumberSpace, 3, (some .int), 2, 45, [])
theorem lk_X11_280 : jv_lk RX11 280 M_X9_depth := Or.inr ⟨"SpaceWarden", (jv_at 1345 (by decide +kernel))⟩
def f_X11_deepestNumberSpace_h4 (K4 : Int32 → jh → Option (Int32 × jh)) (R4 : Nat → Int32 → Int32 → jh → Option (Int32 × jh)) (x0 : Nat) (x1 : Int32) (x2 : Int32) (h : jh) : Option (Int32 × jh) :=
  (if 16 ≤ x2 then
  K4 x1 h
  else
  gR h x0 9 0 fun v2 =>
  cV h v2 3 (f_X5_has v2 x2 h) fun v3 h4 =>
  (if v3 = 0 then
  R4 x0 x1 (x2 + 1) h4
  else
  gR h4 x0 9 1 fun v6 =>
  gR h4 v6 2 0 fun v7 =>
  gR h4 x0 9 0 fun v8 =>
  gR h4 v8 3 1 fun v9 =>
  aI h4 v9 x2 fun v10 =>
  cV h4 v7 7 (f_X9_depth v7 v10 h4) fun v11 h12 =>
  lt1 (if x1 < v11 then v11 else x1) fun v13 =>
  R4 x0 v13 (x2 + 1) h12))
theorem o_f_X11_deepestNumberSpace_h4 {X : jx} {b0 : Nat × Nat} {K4 : Int32 → jh → Option (Int32 × jh)} (hK4 : ∀ (x1 : Int32) (h : jh), jv_O X M_X11_deepestNumberSpace b0 jeI 51 [none, some (.int (x1)), none] [] h (K4 x1 h)) : ∀ (x0 : Nat) (x1 : Int32) (x2 : Int32) (h : jh), jv_O X M_X11_deepestNumberSpace b0 jeI 4 [some (.ref (x0)), some (.int (x1)), some (.int (x2))] [] h (jlp3 (f_X11_deepestNumberSpace_h4 K4) jfu x0 x1 x2 h) := by
  refine jlp3_ok (P := fun x0 x1 x2 h o => jv_O X M_X11_deepestNumberSpace b0 jeI 4 [some (.ref (x0)), some (.int (x1)), some (.int (x2))] [] h o) (fun R4 hR4 => ?_) (fun _ _ _ _  => jv_none rfl) jfu
  intro x0 x1 x2 h
  unfold f_X11_deepestNumberSpace_h4
  refine jv_iload_n (jv_dk t_X11_deepestNumberSpace (k := 4) rfl) rfl rfl ?_
  refine jv_bipush (v := 16) (jv_dk t_X11_deepestNumberSpace (k := 5) rfl) (by decide) ?_
  refine jv_icmp_ge (tgt := 51) (jv_dk t_X11_deepestNumberSpace (k := 6) rfl) rfl (fun c1 => ?_) (fun c1 => ?_)
  · refine jv_le_row (jv_le_n (jv_le_s (jv_le_n (jv_le_nil)))) ?_
    exact hK4 _ _ 
  · show jv_O _ _ _ _ 10 _ _ _ _
    refine jv_aload_n (jv_dk t_X11_deepestNumberSpace (k := 7) rfl) rfl rfl (Or.inr ⟨_, rfl⟩) ?_
    refine jv_gR (jv_dk t_X11_deepestNumberSpace (k := 8) rfl) fl_X11_12 (fun v2 => ?_)
    refine jv_iload_n (jv_dk t_X11_deepestNumberSpace (k := 9) rfl) rfl rfl ?_
    refine jv_callV (en' := jeI) (pv := jpI) (As := [.int (x2)]) (S := []) (jv_dk t_X11_deepestNumberSpace (k := 10) rfl) (fun _ => rfl) lk_X11_76 me_X5_has mv_X5_has ⟨by decide, by decide⟩ rfl rfl rfl (Nat.le_of_ble_eq_true rfl) (P_X5_has X v2 x2 h) (fun v3 h4 => ?_)
    show jv_O X M_X11_deepestNumberSpace _ jeI 18 [some (.ref (x0)), some (.int (x1)), some (.int (x2))] [.int (v3)] h4 _
    refine jv_if_eq (tgt := 45) (jv_dk t_X11_deepestNumberSpace (k := 11) rfl) rfl (fun c5 => ?_) (fun c5 => ?_)
    · refine jv_iinc (v := 1) (L' := [some (.ref (x0)), some (.int (x1)), some (.int (x2 + 1))]) (jv_dk t_X11_deepestNumberSpace (k := 24) rfl) rfl (by decide) rfl ?_
      refine jv_goto (tgt := 4) (jv_dk t_X11_deepestNumberSpace (k := 25) rfl) rfl ?_
      exact hR4 _ _ _ _ 
    · show jv_O _ _ _ _ 21 _ _ _ _
      refine jv_iload_n (jv_dk t_X11_deepestNumberSpace (k := 12) rfl) rfl rfl ?_
      refine jv_aload_n (jv_dk t_X11_deepestNumberSpace (k := 13) rfl) rfl rfl (Or.inr ⟨_, rfl⟩) ?_
      refine jv_gR (jv_dk t_X11_deepestNumberSpace (k := 14) rfl) fl_X11_21 (fun v6 => ?_)
      refine jv_gR (jv_dk t_X11_deepestNumberSpace (k := 15) rfl) fl_X11_52 (fun v7 => ?_)
      refine jv_aload_n (jv_dk t_X11_deepestNumberSpace (k := 16) rfl) rfl rfl (Or.inr ⟨_, rfl⟩) ?_
      refine jv_gR (jv_dk t_X11_deepestNumberSpace (k := 17) rfl) fl_X11_12 (fun v8 => ?_)
      refine jv_gR (jv_dk t_X11_deepestNumberSpace (k := 18) rfl) fl_X11_131 (fun v9 => ?_)
      refine jv_iload_n (jv_dk t_X11_deepestNumberSpace (k := 19) rfl) rfl rfl ?_
      refine jv_iaload (jv_dk t_X11_deepestNumberSpace (k := 20) rfl) (fun v10 => ?_)
      refine jv_callV (en' := jeI) (pv := jpI) (As := [.int (v10)]) (S := [.int (x1)]) (jv_dk t_X11_deepestNumberSpace (k := 21) rfl) (fun _ => rfl) lk_X11_280 me_X9_depth mv_X9_depth ⟨by decide, by decide⟩ rfl rfl rfl (Nat.le_of_ble_eq_true rfl) (P_X9_depth X v7 v10 h4) (fun v11 h12 => ?_)
      show jv_O X M_X11_deepestNumberSpace _ jeI 41 [some (.ref (x0)), some (.int (x1)), some (.int (x2))] [.int (v11), .int (x1)] h12 _
      refine jv_lt1 (fun v13 e_v13 => ?_)
      refine jv_mmax (jv_dk t_X11_deepestNumberSpace (k := 22) rfl) mt_X11_269 (Nat.le_of_ble_eq_true rfl) ⟨by decide, by decide⟩ ?_
      rw [← e_v13]
      refine jv_istore_n (L' := [some (.ref (x0)), some (.int (v13)), some (.int (x2))]) (jv_dk t_X11_deepestNumberSpace (k := 23) rfl) rfl (Nat.le_of_ble_eq_true rfl) rfl ?_
      refine jv_iinc (v := 1) (L' := [some (.ref (x0)), some (.int (v13)), some (.int (x2 + 1))]) (jv_dk t_X11_deepestNumberSpace (k := 24) rfl) rfl (by decide) rfl ?_
      refine jv_goto (tgt := 4) (jv_dk t_X11_deepestNumberSpace (k := 25) rfl) rfl ?_
      exact hR4 _ _ _ _ 
def f_X11_deepestNumberSpace (a0 : Nat) (h : jh) : Option (Int32 × jh) :=
  jlp3 (f_X11_deepestNumberSpace_h4 (fun y15 h14 =>
  some (y15, h14))) jfu a0 0 0 h
theorem P_X11_deepestNumberSpace (X : jx) (a0 : Nat) (h : jh) : jv_P X M_X11_deepestNumberSpace jeI [.ref (a0)] h (f_X11_deepestNumberSpace a0 h) := by
  refine jv_P.of (by decide) rfl (by simp [Value.category]) (Nat.le_of_ble_eq_true rfl) ?_
  show jv_O X M_X11_deepestNumberSpace (h.1, h.2.1) jeI 0 [some (.ref (a0)), none, none] [] h (f_X11_deepestNumberSpace a0 h)
  unfold f_X11_deepestNumberSpace
  refine jv_iconst (v := 0) (jv_dk t_X11_deepestNumberSpace (k := 0) rfl) (by decide) ?_
  refine jv_istore_n (L' := [some (.ref (a0)), some (.int (0)), none]) (jv_dk t_X11_deepestNumberSpace (k := 1) rfl) rfl (Nat.le_of_ble_eq_true rfl) rfl ?_
  refine jv_iconst (v := 0) (jv_dk t_X11_deepestNumberSpace (k := 2) rfl) (by decide) ?_
  refine jv_istore_n (L' := [some (.ref (a0)), some (.int (0)), some (.int (0))]) (jv_dk t_X11_deepestNumberSpace (k := 3) rfl) rfl (Nat.le_of_ble_eq_true rfl) rfl ?_
  refine o_f_X11_deepestNumberSpace_h4 (fun y15 h14 => ?_) _ _ _ _ 
  show jv_O X M_X11_deepestNumberSpace _ jeI 51 [none, some (.int (y15)), none] [] h14 _
  refine jv_iload_n (jv_dk t_X11_deepestNumberSpace (k := 26) rfl) rfl rfl ?_
  exact jv_iret (ty := .int) (jv_dk t_X11_deepestNumberSpace (k := 27) rfl) rfl rfl rfl
def t0_X12_init : List (Nat × Instr × Nat) := [(0, .aload_n 0, 1), (1, .invokespecial 1, 3), (4, .aload_n 0, 1), (5, .new 7, 3), (8, .dup, 1), (9, .invokespecial 9, 3), (12, .putfield 10, 3), (15, .aload_n 0, 1), (16, .new 16, 3), (19, .dup, 1), (20, .invokespecial 18, 3), (23, .putfield 19, 3), (26, .aload_n 0, 1), (27, .new 16, 3), (30, .dup, 1), (31, .invokespecial 18, 3), (34, .putfield 23, 3), (37, .aload_n 0, 1), (38, .new 26, 3), (41, .dup, 1), (42, .invokespecial 28, 3), (45, .putfield 29, 3), (48, .aload_n 0, 1), (49, .new 33, 3), (52, .dup, 1), (53, .invokespecial 35, 3), (56, .putfield 36, 3), (59, .aload_n 0, 1), (60, .iconst 5, 1), (61, .newarray .int, 2), (63, .putfield 40, 3), (66, .aload_n 0, 1), (67, .iconst (-1), 1), (68, .putfield 44, 3), (71, .aload_n 0, 1), (72, .iconst 0, 1), (73, .putfield 48, 3), (76, .aload_n 0, 1), (77, .aconst_null, 1), (78, .putfield 51, 3), (81, .aload_n 0, 1), (82, .iconst 0, 1), (83, .putfield 54, 3), (86, .return_, 1)]
theorem t_X12_init : jv_dec cX12_init t0_X12_init = true := by decide +kernel
def M_X12_init : jm := (yX12_init, cX12_init, 1, none, 5, 101, [])
theorem oi_X12_1 : Cond.methodLink RX12 1 Lib.objectInit ∈ lw_tbl := (jv_at 193 (by decide +kernel))
theorem ck_X12_7 : Cond.classLink RX12 7 RX8 ∈ lw_tbl := (jv_at 196 (by decide +kernel))
theorem ib_X8 : Cond.instantiable RX8 6 ∈ lw_tbl := (jv_at 197 (by decide +kernel))
theorem iz_X8 : Cond.initialized RX8 ∈ lw_tbl := (jv_at 162 (by decide +kernel))
theorem df_X8 : ∀ j, j < 6 → defaultValue (tyX8 j) = vp_V [.null, .null, .null, .null, .int 0, .int 0] j := by decide +kernel
theorem lk_X12_9 : jv_lk RX12 9 M_X8_init := Or.inr ⟨"SpaceWarden", (jv_at 198 (by decide +kernel))⟩
set_option maxRecDepth 20000 in
theorem me_X8_init : jv_me M_X8_init 0 := ⟨(jv_in1 (List.mem_of_getElem? (i := 40) rfl)), (jv_at 162 (by decide +kernel)), ⟨by decide, by decide⟩, by decide +kernel⟩
theorem fl_X12_10 : jv_F RX12 10 10 0 RX12 TX12 10 := ⟨rfl, by decide, inX12, Or.inl (jv_at 483 (by decide +kernel))⟩
theorem ff_X12_10 : Cond.fieldLink RX12 10 (TX12 0).1 (TX12 0).2.1 (TX12 0).2.2.1 ∈ lw_tbl := (jv_at 483 (by decide +kernel))
theorem ck_X12_16 : Cond.classLink RX12 16 RX11 ∈ lw_tbl := (jv_at 432 (by decide +kernel))
theorem lk_X12_18 : jv_lk RX12 18 M_X11_init := Or.inr ⟨"SpaceWarden", (jv_at 433 (by decide +kernel))⟩
theorem fl_X12_19 : jv_F RX12 19 10 1 RX12 TX12 10 := ⟨rfl, by decide, inX12, Or.inl (jv_at 484 (by decide +kernel))⟩
theorem ff_X12_19 : Cond.fieldLink RX12 19 (TX12 1).1 (TX12 1).2.1 (TX12 1).2.2.1 ∈ lw_tbl := (jv_at 484 (by decide +kernel))
theorem fl_X12_23 : jv_F RX12 23 10 2 RX12 TX12 10 := ⟨rfl, by decide, inX12, Or.inl (jv_at 485 (by decide +kernel))⟩
theorem ff_X12_23 : Cond.fieldLink RX12 23 (TX12 2).1 (TX12 2).2.1 (TX12 2).2.2.1 ∈ lw_tbl := (jv_at 485 (by decide +kernel))
theorem ck_X12_26 : Cond.classLink RX12 26 RX7 ∈ lw_tbl := (jv_at 434 (by decide +kernel))
theorem ib_X7 : Cond.instantiable RX7 4 ∈ lw_tbl := (jv_at 435 (by decide +kernel))
theorem iz_X7 : Cond.initialized RX7 ∈ lw_tbl := (jv_at 170 (by decide +kernel))
theorem df_X7 : ∀ j, j < 4 → defaultValue (tyX7 j) = vp_V [.null, .null, .null, .int 0] j := by decide +kernel
theorem lk_X12_28 : jv_lk RX12 28 M_X7_init := Or.inr ⟨"SpaceWarden", (jv_at 436 (by decide +kernel))⟩
set_option maxRecDepth 20000 in
theorem me_X7_init : jv_me M_X7_init 0 := ⟨(jv_in2 (List.mem_of_getElem? (i := 38) rfl)), (jv_at 170 (by decide +kernel)), ⟨by decide, by decide⟩, by decide +kernel⟩
theorem fl_X12_29 : jv_F RX12 29 10 3 RX12 TX12 10 := ⟨rfl, by decide, inX12, Or.inl (jv_at 486 (by decide +kernel))⟩
theorem ff_X12_29 : Cond.fieldLink RX12 29 (TX12 3).1 (TX12 3).2.1 (TX12 3).2.2.1 ∈ lw_tbl := (jv_at 486 (by decide +kernel))
theorem ck_X12_33 : Cond.classLink RX12 33 RX6 ∈ lw_tbl := (jv_at 453 (by decide +kernel))
theorem ib_X6 : Cond.instantiable RX6 7 ∈ lw_tbl := (jv_at 454 (by decide +kernel))
theorem iz_X6 : Cond.initialized RX6 ∈ lw_tbl := (jv_at 171 (by decide +kernel))
theorem df_X6 : ∀ j, j < 7 → defaultValue (tyX6 j) = vp_V [.null, .null, .int 0, .int 0, .int 0, .int 0, .int 0] j := by decide +kernel
theorem lk_X12_35 : jv_lk RX12 35 M_X6_init := Or.inr ⟨"SpaceWarden", (jv_at 455 (by decide +kernel))⟩
set_option maxRecDepth 20000 in
theorem me_X6_init : jv_me M_X6_init 0 := ⟨(jv_in2 (List.mem_of_getElem? (i := 57) rfl)), (jv_at 171 (by decide +kernel)), ⟨by decide, by decide⟩, by decide +kernel⟩
theorem fl_X12_36 : jv_F RX12 36 10 4 RX12 TX12 10 := ⟨rfl, by decide, inX12, Or.inl (jv_at 487 (by decide +kernel))⟩
theorem ff_X12_36 : Cond.fieldLink RX12 36 (TX12 4).1 (TX12 4).2.1 (TX12 4).2.2.1 ∈ lw_tbl := (jv_at 487 (by decide +kernel))
theorem fl_X12_40 : jv_F RX12 40 10 5 RX12 TX12 10 := ⟨rfl, by decide, inX12, Or.inl (jv_at 488 (by decide +kernel))⟩
theorem ff_X12_40 : Cond.fieldLink RX12 40 (TX12 5).1 (TX12 5).2.1 (TX12 5).2.2.1 ∈ lw_tbl := (jv_at 488 (by decide +kernel))
theorem fl_X12_44 : jv_F RX12 44 10 6 RX12 TX12 10 := ⟨rfl, by decide, inX12, Or.inl (jv_at 489 (by decide +kernel))⟩
theorem fl_X12_48 : jv_F RX12 48 10 7 RX12 TX12 10 := ⟨rfl, by decide, inX12, Or.inl (jv_at 490 (by decide +kernel))⟩
theorem fl_X12_51 : jv_F RX12 51 10 8 RX12 TX12 10 := ⟨rfl, by decide, inX12, Or.inl (jv_at 491 (by decide +kernel))⟩
theorem fl_X12_54 : jv_F RX12 54 10 9 RX12 TX12 10 := ⟨rfl, by decide, inX12, Or.inl (jv_at 492 (by decide +kernel))⟩
theorem mi_X6_init : jv_mi M_X6_init := (jv_at 456 (by decide +kernel))
theorem mi_X7_init : jv_mi M_X7_init := (jv_at 437 (by decide +kernel))
theorem mi_X8_init : jv_mi M_X8_init := (jv_at 199 (by decide +kernel))
def f_X12_init (a0 : Nat) (h : jh) : Option (Unit × jh) :=
  nO h 6 6 [.null, .null, .null, .null, .int 0, .int 0] fun q1 h2 =>
  bd (f_X8_init q1 h2) fun _ h3 =>
  pV h3 a0 10 0 (.ref (q1)) fun h4 =>
  nO h4 9 4 [.null, .null, .null, .null] fun q5 h6 =>
  bd (f_X11_init q5 h6) fun _ h7 =>
  pV h7 a0 10 1 (.ref (q5)) fun h8 =>
  nO h8 9 4 [.null, .null, .null, .null] fun q9 h10 =>
  bd (f_X11_init q9 h10) fun _ h11 =>
  pV h11 a0 10 2 (.ref (q9)) fun h12 =>
  nO h12 5 4 [.null, .null, .null, .int 0] fun q13 h14 =>
  bd (f_X7_init q13 h14) fun _ h15 =>
  pV h15 a0 10 3 (.ref (q13)) fun h16 =>
  nO h16 4 7 [.null, .null, .int 0, .int 0, .int 0, .int 0, .int 0] fun q17 h18 =>
  bd (f_X6_init q17 h18) fun _ h19 =>
  pV h19 a0 10 4 (.ref (q17)) fun h20 =>
  nI4 h20 5 fun q21 h22 =>
  pV h22 a0 10 5 (.ref (q21)) fun h23 =>
  pV h23 a0 10 6 (.int ((-1))) fun h24 =>
  pV h24 a0 10 7 (.int (0)) fun h25 =>
  pV h25 a0 10 8 (.null) fun h26 =>
  pV h26 a0 10 9 (.int (0)) fun h27 =>
  some ((), h27)
theorem P_X12_init (X : jx) (a0 : Nat) (h : jh) : jv_P X M_X12_init jeV [.ref (a0)] h (f_X12_init a0 h) := by
  refine jv_P.of (by decide) rfl (by simp [Value.category]) (Nat.le_of_ble_eq_true rfl) ?_
  show jv_O X M_X12_init (h.1, h.2.1) jeV 0 [some (.ref (a0))] [] h (f_X12_init a0 h)
  unfold f_X12_init
  refine jv_aload_n (jv_dk t_X12_init (k := 0) rfl) rfl rfl (Or.inr ⟨_, rfl⟩) ?_
  refine jv_obj (jv_dk t_X12_init (k := 1) rfl) oi_X12_1 oi_2 oi_3 (Nat.le_of_ble_eq_true rfl) ⟨by decide, by decide⟩ ?_
  refine jv_aload_n (jv_dk t_X12_init (k := 2) rfl) rfl rfl (Or.inr ⟨_, rfl⟩) ?_
  refine jv_new (jv_dk t_X12_init (k := 3) rfl) kX8 ck_X12_7 ib_X8 iz_X8 df_X8 (fun q1 h2 => ?_)
  refine jv_dup (jv_dk t_X12_init (k := 4) rfl) rfl ?_
  refine jv_callI (en' := jeV) (pv := jpV) (As := []) (S := [.ref (q1), .ref (a0)]) (jv_dk t_X12_init (k := 5) rfl) (fun _ => rfl) lk_X12_9 me_X8_init mi_X8_init rfl rfl ⟨by decide, by decide⟩ rfl rfl (Nat.le_of_ble_eq_true rfl) (P_X8_init X q1 h2) (fun _ h3 => ?_)
  show jv_O X M_X12_init _ jeV 12 [some (.ref (a0))] [.ref (q1), .ref (a0)] h3 _
  refine jv_pV (jv_dk t_X12_init (k := 6) rfl) fl_X12_10 kX12 (Or.inr ⟨rfl, rfl, rfl, ff_X12_10⟩) rfl rfl rfl (fun h4 => ?_)
  refine jv_aload_n (jv_dk t_X12_init (k := 7) rfl) rfl rfl (Or.inr ⟨_, rfl⟩) ?_
  refine jv_new (jv_dk t_X12_init (k := 8) rfl) kX11 ck_X12_16 ib_X11 iz_X11 df_X11 (fun q5 h6 => ?_)
  refine jv_dup (jv_dk t_X12_init (k := 9) rfl) rfl ?_
  refine jv_callI (en' := jeV) (pv := jpV) (As := []) (S := [.ref (q5), .ref (a0)]) (jv_dk t_X12_init (k := 10) rfl) (fun _ => rfl) lk_X12_18 me_X11_init mi_X11_init rfl rfl ⟨by decide, by decide⟩ rfl rfl (Nat.le_of_ble_eq_true rfl) (P_X11_init X q5 h6) (fun _ h7 => ?_)
  show jv_O X M_X12_init _ jeV 23 [some (.ref (a0))] [.ref (q5), .ref (a0)] h7 _
  refine jv_pV (jv_dk t_X12_init (k := 11) rfl) fl_X12_19 kX12 (Or.inr ⟨rfl, rfl, rfl, ff_X12_19⟩) rfl rfl rfl (fun h8 => ?_)
  refine jv_aload_n (jv_dk t_X12_init (k := 12) rfl) rfl rfl (Or.inr ⟨_, rfl⟩) ?_
  refine jv_new (jv_dk t_X12_init (k := 13) rfl) kX11 ck_X12_16 ib_X11 iz_X11 df_X11 (fun q9 h10 => ?_)
  refine jv_dup (jv_dk t_X12_init (k := 14) rfl) rfl ?_
  refine jv_callI (en' := jeV) (pv := jpV) (As := []) (S := [.ref (q9), .ref (a0)]) (jv_dk t_X12_init (k := 15) rfl) (fun _ => rfl) lk_X12_18 me_X11_init mi_X11_init rfl rfl ⟨by decide, by decide⟩ rfl rfl (Nat.le_of_ble_eq_true rfl) (P_X11_init X q9 h10) (fun _ h11 => ?_)
  show jv_O X M_X12_init _ jeV 34 [some (.ref (a0))] [.ref (q9), .ref (a0)] h11 _
  refine jv_pV (jv_dk t_X12_init (k := 16) rfl) fl_X12_23 kX12 (Or.inr ⟨rfl, rfl, rfl, ff_X12_23⟩) rfl rfl rfl (fun h12 => ?_)
  refine jv_aload_n (jv_dk t_X12_init (k := 17) rfl) rfl rfl (Or.inr ⟨_, rfl⟩) ?_
  refine jv_new (jv_dk t_X12_init (k := 18) rfl) kX7 ck_X12_26 ib_X7 iz_X7 df_X7 (fun q13 h14 => ?_)
  refine jv_dup (jv_dk t_X12_init (k := 19) rfl) rfl ?_
  refine jv_callI (en' := jeV) (pv := jpV) (As := []) (S := [.ref (q13), .ref (a0)]) (jv_dk t_X12_init (k := 20) rfl) (fun _ => rfl) lk_X12_28 me_X7_init mi_X7_init rfl rfl ⟨by decide, by decide⟩ rfl rfl (Nat.le_of_ble_eq_true rfl) (P_X7_init X q13 h14) (fun _ h15 => ?_)
  show jv_O X M_X12_init _ jeV 45 [some (.ref (a0))] [.ref (q13), .ref (a0)] h15 _
  refine jv_pV (jv_dk t_X12_init (k := 21) rfl) fl_X12_29 kX12 (Or.inr ⟨rfl, rfl, rfl, ff_X12_29⟩) rfl rfl rfl (fun h16 => ?_)
  refine jv_aload_n (jv_dk t_X12_init (k := 22) rfl) rfl rfl (Or.inr ⟨_, rfl⟩) ?_
  refine jv_new (jv_dk t_X12_init (k := 23) rfl) kX6 ck_X12_33 ib_X6 iz_X6 df_X6 (fun q17 h18 => ?_)
  refine jv_dup (jv_dk t_X12_init (k := 24) rfl) rfl ?_
  refine jv_callI (en' := jeV) (pv := jpV) (As := []) (S := [.ref (q17), .ref (a0)]) (jv_dk t_X12_init (k := 25) rfl) (fun _ => rfl) lk_X12_35 me_X6_init mi_X6_init rfl rfl ⟨by decide, by decide⟩ rfl rfl (Nat.le_of_ble_eq_true rfl) (P_X6_init X q17 h18) (fun _ h19 => ?_)
  show jv_O X M_X12_init _ jeV 56 [some (.ref (a0))] [.ref (q17), .ref (a0)] h19 _
  refine jv_pV (jv_dk t_X12_init (k := 26) rfl) fl_X12_36 kX12 (Or.inr ⟨rfl, rfl, rfl, ff_X12_36⟩) rfl rfl rfl (fun h20 => ?_)
  refine jv_aload_n (jv_dk t_X12_init (k := 27) rfl) rfl rfl (Or.inr ⟨_, rfl⟩) ?_
  refine jv_iconst (v := 5) (jv_dk t_X12_init (k := 28) rfl) (by decide) ?_
  refine jv_newI (jv_dk t_X12_init (k := 29) rfl) ac_I (fun q21 h22 => ?_)
  refine jv_pV (jv_dk t_X12_init (k := 30) rfl) fl_X12_40 kX12 (Or.inr ⟨rfl, rfl, rfl, ff_X12_40⟩) rfl rfl rfl (fun h23 => ?_)
  refine jv_aload_n (jv_dk t_X12_init (k := 31) rfl) rfl rfl (Or.inr ⟨_, rfl⟩) ?_
  refine jv_iconst (v := (-1)) (jv_dk t_X12_init (k := 32) rfl) (by decide) ?_
  refine jv_pV (jv_dk t_X12_init (k := 33) rfl) fl_X12_44 kX12 (Or.inl rfl) rfl rfl rfl (fun h24 => ?_)
  refine jv_aload_n (jv_dk t_X12_init (k := 34) rfl) rfl rfl (Or.inr ⟨_, rfl⟩) ?_
  refine jv_iconst (v := 0) (jv_dk t_X12_init (k := 35) rfl) (by decide) ?_
  refine jv_pV (jv_dk t_X12_init (k := 36) rfl) fl_X12_48 kX12 (Or.inl rfl) rfl rfl rfl (fun h25 => ?_)
  refine jv_aload_n (jv_dk t_X12_init (k := 37) rfl) rfl rfl (Or.inr ⟨_, rfl⟩) ?_
  refine jv_null (jv_dk t_X12_init (k := 38) rfl) ?_
  refine jv_pV (jv_dk t_X12_init (k := 39) rfl) fl_X12_51 kX12 (Or.inl rfl) rfl rfl rfl (fun h26 => ?_)
  refine jv_aload_n (jv_dk t_X12_init (k := 40) rfl) rfl rfl (Or.inr ⟨_, rfl⟩) ?_
  refine jv_iconst (v := 0) (jv_dk t_X12_init (k := 41) rfl) (by decide) ?_
  refine jv_pV (jv_dk t_X12_init (k := 42) rfl) fl_X12_54 kX12 (Or.inl rfl) rfl rfl rfl (fun h27 => ?_)
  exact jv_vret (jv_dk t_X12_init (k := 43) rfl) rfl rfl
def t0_X12_feed : List (Nat × Instr × Nat) := [(0, .aload_n 0, 1), (1, .getfield 36, 3), (4, .getfield 58, 3), (7, .bipush 20, 2), (9, .iadd, 1), (10, .sipush 900, 3), (13, .if_icmp .le 5, 3), (16, .iconst (-1), 1), (17, .ireturn, 1), (18, .aload_n 0, 1), (19, .getfield 36, 3), (22, .iload_n 1, 1), (23, .invokevirtual 61, 3), (26, .aload_n 0, 1), (27, .getfield 36, 3), (30, .iload_n 2, 1), (31, .invokevirtual 61, 3), (34, .aload_n 0, 1), (35, .getfield 36, 3), (38, .iload_n 3, 1), (39, .invokevirtual 61, 3), (42, .aload_n 0, 1), (43, .getfield 36, 3), (46, .iload 4, 2), (48, .invokevirtual 61, 3), (51, .aload_n 0, 1), (52, .getfield 36, 3), (55, .iload 5, 2), (57, .invokevirtual 61, 3), (60, .aload_n 0, 1), (61, .getfield 36, 3), (64, .getfield 58, 3), (67, .ireturn, 1)]
theorem t_X12_feed : jv_dec cX12_feed t0_X12_feed = true := by decide +kernel
def M_X12_feed : jm := (yX12_feed, cX12_feed, 6, (some .int), 1, 22, [])
theorem fl_X12_58 : jv_F RX12 58 4 2 RX6 TX6 7 := ⟨rfl, by decide, inX6, Or.inr ⟨"SpaceWarden", (jv_at 462 (by decide +kernel))⟩⟩
theorem lk_X12_61 : jv_lk RX12 61 M_X6_append := Or.inr ⟨"SpaceWarden", (jv_at 518 (by decide +kernel))⟩
set_option maxRecDepth 20000 in
theorem me_X6_append : jv_me M_X6_append 1 := ⟨(jv_in2 (List.mem_of_getElem? (i := 121) rfl)), (jv_at 171 (by decide +kernel)), ⟨by decide, by decide⟩, by decide +kernel⟩
theorem mv_X6_append : jv_mv M_X6_append := ⟨(jv_at 520 (by decide +kernel)), (jv_at 0 (by decide +kernel))⟩
def f_X12_feed (a0 : Nat) (a1 : Int32) (a2 : Int32) (a3 : Int32) (a4 : Int32) (a5 : Int32) (h : jh) : Option (Int32 × jh) :=
  gR h a0 10 4 fun v1 =>
  gI h v1 4 2 fun v2 =>
  (if (v2 + 20) ≤ 900 then
  gR h a0 10 4 fun v4 =>
  cV h v4 4 (f_X6_append v4 a1 h) fun _ h5 =>
  gR h5 a0 10 4 fun v6 =>
  cV h5 v6 4 (f_X6_append v6 a2 h5) fun _ h7 =>
  gR h7 a0 10 4 fun v8 =>
  cV h7 v8 4 (f_X6_append v8 a3 h7) fun _ h9 =>
  gR h9 a0 10 4 fun v10 =>
  cV h9 v10 4 (f_X6_append v10 a4 h9) fun _ h11 =>
  gR h11 a0 10 4 fun v12 =>
  cV h11 v12 4 (f_X6_append v12 a5 h11) fun _ h13 =>
  gR h13 a0 10 4 fun v14 =>
  gI h13 v14 4 2 fun v15 =>
  some (v15, h13)
  else
  some ((-1), h))
theorem P_X12_feed (X : jx) (a0 : Nat) (a1 : Int32) (a2 : Int32) (a3 : Int32) (a4 : Int32) (a5 : Int32) (h : jh) : jv_P X M_X12_feed jeI [.ref (a0), .int (a1), .int (a2), .int (a3), .int (a4), .int (a5)] h (f_X12_feed a0 a1 a2 a3 a4 a5 h) := by
  refine jv_P.of (by decide) rfl (by simp [Value.category]) (Nat.le_of_ble_eq_true rfl) ?_
  show jv_O X M_X12_feed (h.1, h.2.1) jeI 0 [some (.ref (a0)), some (.int (a1)), some (.int (a2)), some (.int (a3)), some (.int (a4)), some (.int (a5))] [] h (f_X12_feed a0 a1 a2 a3 a4 a5 h)
  unfold f_X12_feed
  refine jv_aload_n (jv_dk t_X12_feed (k := 0) rfl) rfl rfl (Or.inr ⟨_, rfl⟩) ?_
  refine jv_gR (jv_dk t_X12_feed (k := 1) rfl) fl_X12_36 (fun v1 => ?_)
  refine jv_gI (jv_dk t_X12_feed (k := 2) rfl) fl_X12_58 (fun v2 => ?_)
  refine jv_bipush (v := 20) (jv_dk t_X12_feed (k := 3) rfl) (by decide) ?_
  refine jv_iadd (jv_dk t_X12_feed (k := 4) rfl) ?_
  refine jv_sipush (v := 900) (jv_dk t_X12_feed (k := 5) rfl) (by decide) ?_
  refine jv_icmp_le (tgt := 18) (jv_dk t_X12_feed (k := 6) rfl) rfl (fun c3 => ?_) (fun c3 => ?_)
  · refine jv_aload_n (jv_dk t_X12_feed (k := 9) rfl) rfl rfl (Or.inr ⟨_, rfl⟩) ?_
    refine jv_gR (jv_dk t_X12_feed (k := 10) rfl) fl_X12_36 (fun v4 => ?_)
    refine jv_iload_n (jv_dk t_X12_feed (k := 11) rfl) rfl rfl ?_
    refine jv_callV (en' := jeV) (pv := jpV) (As := [.int (a1)]) (S := []) (jv_dk t_X12_feed (k := 12) rfl) (fun _ => rfl) lk_X12_61 me_X6_append mv_X6_append ⟨by decide, by decide⟩ rfl rfl rfl (Nat.le_of_ble_eq_true rfl) (P_X6_append X v4 a1 h) (fun _ h5 => ?_)
    show jv_O X M_X12_feed _ jeI 26 [some (.ref (a0)), some (.int (a1)), some (.int (a2)), some (.int (a3)), some (.int (a4)), some (.int (a5))] [] h5 _
    refine jv_aload_n (jv_dk t_X12_feed (k := 13) rfl) rfl rfl (Or.inr ⟨_, rfl⟩) ?_
    refine jv_gR (jv_dk t_X12_feed (k := 14) rfl) fl_X12_36 (fun v6 => ?_)
    refine jv_iload_n (jv_dk t_X12_feed (k := 15) rfl) rfl rfl ?_
    refine jv_callV (en' := jeV) (pv := jpV) (As := [.int (a2)]) (S := []) (jv_dk t_X12_feed (k := 16) rfl) (fun _ => rfl) lk_X12_61 me_X6_append mv_X6_append ⟨by decide, by decide⟩ rfl rfl rfl (Nat.le_of_ble_eq_true rfl) (P_X6_append X v6 a2 h5) (fun _ h7 => ?_)
    show jv_O X M_X12_feed _ jeI 34 [some (.ref (a0)), some (.int (a1)), some (.int (a2)), some (.int (a3)), some (.int (a4)), some (.int (a5))] [] h7 _
    refine jv_aload_n (jv_dk t_X12_feed (k := 17) rfl) rfl rfl (Or.inr ⟨_, rfl⟩) ?_
    refine jv_gR (jv_dk t_X12_feed (k := 18) rfl) fl_X12_36 (fun v8 => ?_)
    refine jv_iload_n (jv_dk t_X12_feed (k := 19) rfl) rfl rfl ?_
    refine jv_callV (en' := jeV) (pv := jpV) (As := [.int (a3)]) (S := []) (jv_dk t_X12_feed (k := 20) rfl) (fun _ => rfl) lk_X12_61 me_X6_append mv_X6_append ⟨by decide, by decide⟩ rfl rfl rfl (Nat.le_of_ble_eq_true rfl) (P_X6_append X v8 a3 h7) (fun _ h9 => ?_)
    show jv_O X M_X12_feed _ jeI 42 [some (.ref (a0)), some (.int (a1)), some (.int (a2)), some (.int (a3)), some (.int (a4)), some (.int (a5))] [] h9 _
    refine jv_aload_n (jv_dk t_X12_feed (k := 21) rfl) rfl rfl (Or.inr ⟨_, rfl⟩) ?_
    refine jv_gR (jv_dk t_X12_feed (k := 22) rfl) fl_X12_36 (fun v10 => ?_)
    refine jv_iload (jv_dk t_X12_feed (k := 23) rfl) rfl ?_
    refine jv_callV (en' := jeV) (pv := jpV) (As := [.int (a4)]) (S := []) (jv_dk t_X12_feed (k := 24) rfl) (fun _ => rfl) lk_X12_61 me_X6_append mv_X6_append ⟨by decide, by decide⟩ rfl rfl rfl (Nat.le_of_ble_eq_true rfl) (P_X6_append X v10 a4 h9) (fun _ h11 => ?_)
    show jv_O X M_X12_feed _ jeI 51 [some (.ref (a0)), some (.int (a1)), some (.int (a2)), some (.int (a3)), some (.int (a4)), some (.int (a5))] [] h11 _
    refine jv_aload_n (jv_dk t_X12_feed (k := 25) rfl) rfl rfl (Or.inr ⟨_, rfl⟩) ?_
    refine jv_gR (jv_dk t_X12_feed (k := 26) rfl) fl_X12_36 (fun v12 => ?_)
    refine jv_iload (jv_dk t_X12_feed (k := 27) rfl) rfl ?_
    refine jv_callV (en' := jeV) (pv := jpV) (As := [.int (a5)]) (S := []) (jv_dk t_X12_feed (k := 28) rfl) (fun _ => rfl) lk_X12_61 me_X6_append mv_X6_append ⟨by decide, by decide⟩ rfl rfl rfl (Nat.le_of_ble_eq_true rfl) (P_X6_append X v12 a5 h11) (fun _ h13 => ?_)
    show jv_O X M_X12_feed _ jeI 60 [some (.ref (a0)), some (.int (a1)), some (.int (a2)), some (.int (a3)), some (.int (a4)), some (.int (a5))] [] h13 _
    refine jv_aload_n (jv_dk t_X12_feed (k := 29) rfl) rfl rfl (Or.inr ⟨_, rfl⟩) ?_
    refine jv_gR (jv_dk t_X12_feed (k := 30) rfl) fl_X12_36 (fun v14 => ?_)
    refine jv_gI (jv_dk t_X12_feed (k := 31) rfl) fl_X12_58 (fun v15 => ?_)
    exact jv_iret (ty := .int) (jv_dk t_X12_feed (k := 32) rfl) rfl rfl rfl
  · show jv_O _ _ _ _ 16 _ _ _ _
    refine jv_iconst (v := (-1)) (jv_dk t_X12_feed (k := 7) rfl) (by decide) ?_
    exact jv_iret (ty := .int) (jv_dk t_X12_feed (k := 8) rfl) rfl rfl rfl
def t0_X12_spaces : List (Nat × Instr × Nat) := [(0, .iload_n 1, 1), (1, .ifCond .lt 14, 3), (4, .iload_n 1, 1), (5, .aload_n 0, 1), (6, .getfield 36, 3), (9, .getfield 58, 3), (12, .if_icmp .le 11, 3), (15, .new 65, 3), (18, .dup, 1), (19, .invokespecial 67, 3), (22, .athrow, 1), (23, .aload_n 0, 1), (24, .getfield 23, 3), (27, .aload_n 0, 1), (28, .getfield 19, 3), (31, .invokevirtual 68, 3), (34, .aload_n 0, 1), (35, .getfield 36, 3), (38, .iload_n 1, 1), (39, .aload_n 0, 1), (40, .getfield 23, 3), (43, .invokevirtual 72, 3), (46, .istore_n 2, 1), (47, .aload_n 0, 1), (48, .getfield 36, 3), (51, .iconst 0, 1), (52, .putfield 58, 3), (55, .iload_n 2, 1), (56, .ifCond .eq 29, 3), (59, .aload_n 0, 1), (60, .aload_n 0, 1), (61, .getfield 36, 3), (64, .getfield 76, 3), (67, .putfield 44, 3), (70, .aload_n 0, 1), (71, .getfield 10, 3), (74, .getfield 79, 3), (77, .iconst 0, 1), (78, .dup2, 1), (79, .iaload, 1), (80, .iconst 1, 1), (81, .iadd, 1), (82, .iastore, 1), (83, .iload_n 2, 1), (84, .ireturn, 1), (85, .aload_n 0, 1), (86, .iconst (-1), 1), (87, .putfield 44, 3), (90, .aload_n 0, 1), (91, .getfield 10, 3), (94, .getfield 82, 3), (97, .aload_n 0, 1), (98, .getfield 23, 3), (101, .invokevirtual 68, 3), (104, .aload_n 0, 1), (105, .getfield 10, 3), (108, .iconst 0, 1), (109, .putfield 85, 3), (112, .aload_n 0, 1), (113, .getfield 10, 3), (116, .getfield 88, 3), (119, .iconst 0, 1), (120, .putfield 92, 3), (123, .aload_n 0, 1), (124, .iconst 0, 1), (125, .putfield 54, 3), (128, .iconst 0, 1), (129, .ireturn, 1)]
theorem t_X12_spaces : jv_dec cX12_spaces t0_X12_spaces = true := by decide +kernel
def M_X12_spaces : jm := (yX12_spaces, cX12_spaces, 3, (some .int), 10, 294, [])
theorem tw_65_67 : jv_thw 65 67 "java/lang/IllegalArgumentException" := by unfold jv_thw; decide +kernel
theorem lk_X12_68 : jv_lk RX12 68 M_X11_copy := Or.inr ⟨"SpaceWarden", (jv_at 1006 (by decide +kernel))⟩
theorem lk_X12_72 : jv_lk RX12 72 M_X6_read := Or.inr ⟨"SpaceWarden", (jv_at 1007 (by decide +kernel))⟩
set_option maxRecDepth 20000 in
theorem me_X6_read : jv_me M_X6_read 2 := ⟨(jv_in4 (List.mem_of_getElem? (i := 130) rfl)), (jv_at 171 (by decide +kernel)), ⟨by decide, by decide⟩, by decide +kernel⟩
theorem fl_X12_82 : jv_F RX12 82 6 0 RX8 TX8 6 := ⟨rfl, by decide, inX8, Or.inr ⟨"SpaceWarden", (jv_at 410 (by decide +kernel))⟩⟩
theorem fl_X12_85 : jv_F RX12 85 6 5 RX8 TX8 6 := ⟨rfl, by decide, inX8, Or.inr ⟨"SpaceWarden", (jv_at 418 (by decide +kernel))⟩⟩
theorem fl_X12_88 : jv_F RX12 88 6 2 RX8 TX8 6 := ⟨rfl, by decide, inX8, Or.inr ⟨"SpaceWarden", (jv_at 413 (by decide +kernel))⟩⟩
theorem fl_X12_92 : jv_F RX12 92 1 3 RX3 TX3 4 := ⟨rfl, by decide, inX3, Or.inr ⟨"SpaceWarden", (jv_at 399 (by decide +kernel))⟩⟩
theorem fl_X12_76 : jv_F RX12 76 4 5 RX6 TX6 7 := ⟨rfl, by decide, inX6, Or.inr ⟨"SpaceWarden", (jv_at 466 (by decide +kernel))⟩⟩
theorem fl_X12_79 : jv_F RX12 79 6 3 RX8 TX8 6 := ⟨rfl, by decide, inX8, Or.inr ⟨"SpaceWarden", (jv_at 415 (by decide +kernel))⟩⟩
theorem mv_X6_read : jv_mv M_X6_read := ⟨(jv_at 1009 (by decide +kernel)), (jv_at 68 (by decide +kernel))⟩
def f_X12_spaces (a0 : Nat) (a1 : Int32) (h : jh) : Option ((Int32 ⊕ String) × jh) :=
  (if a1 < 0 then
  some (.inr "java/lang/IllegalArgumentException", jt h)
  else
  gR h a0 10 4 fun v2 =>
  gI h v2 4 2 fun v3 =>
  (if a1 ≤ v3 then
  gR h a0 10 2 fun v5 =>
  gR h a0 10 1 fun v6 =>
  cV h v5 9 (f_X11_copy v5 v6 h) fun _ h7 =>
  gR h7 a0 10 4 fun v8 =>
  gR h7 a0 10 2 fun v9 =>
  cV h7 v8 4 (f_X6_read v8 a1 v9 h7) fun v10 h11 =>
  gR h11 a0 10 4 fun v12 =>
  pV h11 v12 4 2 (.int (0)) fun h13 =>
  (if v10 = 0 then
  pV h13 a0 10 6 (.int ((-1))) fun h15 =>
  gR h15 a0 10 0 fun v16 =>
  gR h15 v16 6 0 fun v17 =>
  gR h15 a0 10 2 fun v18 =>
  cV h15 v17 9 (f_X11_copy v17 v18 h15) fun _ h19 =>
  gR h19 a0 10 0 fun v20 =>
  pV h19 v20 6 5 (.int (0)) fun h21 =>
  gR h21 a0 10 0 fun v22 =>
  gR h21 v22 6 2 fun v23 =>
  pV h21 v23 1 3 (.int (0)) fun h24 =>
  pV h24 a0 10 9 (.int (0)) fun h25 =>
  some (.inl 0, h25)
  else
  gR h13 a0 10 4 fun v26 =>
  gI h13 v26 4 5 fun v27 =>
  pV h13 a0 10 6 (.int (v27)) fun h28 =>
  gR h28 a0 10 0 fun v29 =>
  gR h28 v29 6 3 fun v30 =>
  aI h28 v30 0 fun v31 =>
  sI h28 v30 0 (v31 + 1) fun h32 =>
  some (.inl v10, h32))
  else
  some (.inr "java/lang/IllegalArgumentException", jt h)))
theorem P_X12_spaces (X : jx) (a0 : Nat) (a1 : Int32) (h : jh) : jv_P X M_X12_spaces jeIX [.ref (a0), .int (a1)] h (f_X12_spaces a0 a1 h) := by
  refine jv_P.of (by decide) rfl (by simp [Value.category]) (Nat.le_of_ble_eq_true rfl) ?_
  show jv_O X M_X12_spaces (h.1, h.2.1) jeIX 0 [some (.ref (a0)), some (.int (a1)), none] [] h (f_X12_spaces a0 a1 h)
  unfold f_X12_spaces
  refine jv_iload_n (jv_dk t_X12_spaces (k := 0) rfl) rfl rfl ?_
  refine jv_if_lt (tgt := 15) (jv_dk t_X12_spaces (k := 1) rfl) rfl (fun c1 => ?_) (fun c1 => ?_)
  · exact jv_throw (jv_dk t_X12_spaces (k := 7) rfl) (jv_dk t_X12_spaces (k := 8) rfl) (jv_dk t_X12_spaces (k := 9) rfl) (jv_dk t_X12_spaces (k := 10) rfl) rfl rfl (by decide) tw_65_67 (Nat.le_of_ble_eq_true rfl) ⟨by decide, by decide⟩ rfl
  · show jv_O _ _ _ _ 4 _ _ _ _
    refine jv_iload_n (jv_dk t_X12_spaces (k := 2) rfl) rfl rfl ?_
    refine jv_aload_n (jv_dk t_X12_spaces (k := 3) rfl) rfl rfl (Or.inr ⟨_, rfl⟩) ?_
    refine jv_gR (jv_dk t_X12_spaces (k := 4) rfl) fl_X12_36 (fun v2 => ?_)
    refine jv_gI (jv_dk t_X12_spaces (k := 5) rfl) fl_X12_58 (fun v3 => ?_)
    refine jv_icmp_le (tgt := 23) (jv_dk t_X12_spaces (k := 6) rfl) rfl (fun c4 => ?_) (fun c4 => ?_)
    · refine jv_aload_n (jv_dk t_X12_spaces (k := 11) rfl) rfl rfl (Or.inr ⟨_, rfl⟩) ?_
      refine jv_gR (jv_dk t_X12_spaces (k := 12) rfl) fl_X12_23 (fun v5 => ?_)
      refine jv_aload_n (jv_dk t_X12_spaces (k := 13) rfl) rfl rfl (Or.inr ⟨_, rfl⟩) ?_
      refine jv_gR (jv_dk t_X12_spaces (k := 14) rfl) fl_X12_19 (fun v6 => ?_)
      refine jv_callV (en' := jeV) (pv := jpV) (As := [.ref (v6)]) (S := []) (jv_dk t_X12_spaces (k := 15) rfl) (fun _ => rfl) lk_X12_68 me_X11_copy mv_X11_copy ⟨by decide, by decide⟩ rfl rfl rfl (Nat.le_of_ble_eq_true rfl) (P_X11_copy X v5 v6 h) (fun _ h7 => ?_)
      show jv_O X M_X12_spaces _ jeIX 34 [some (.ref (a0)), some (.int (a1)), none] [] h7 _
      refine jv_aload_n (jv_dk t_X12_spaces (k := 16) rfl) rfl rfl (Or.inr ⟨_, rfl⟩) ?_
      refine jv_gR (jv_dk t_X12_spaces (k := 17) rfl) fl_X12_36 (fun v8 => ?_)
      refine jv_iload_n (jv_dk t_X12_spaces (k := 18) rfl) rfl rfl ?_
      refine jv_aload_n (jv_dk t_X12_spaces (k := 19) rfl) rfl rfl (Or.inr ⟨_, rfl⟩) ?_
      refine jv_gR (jv_dk t_X12_spaces (k := 20) rfl) fl_X12_23 (fun v9 => ?_)
      refine jv_callV (en' := jeI) (pv := jpI) (As := [.int (a1), .ref (v9)]) (S := []) (jv_dk t_X12_spaces (k := 21) rfl) (fun _ => rfl) lk_X12_72 me_X6_read mv_X6_read ⟨by decide, by decide⟩ rfl rfl rfl (Nat.le_of_ble_eq_true rfl) (P_X6_read X v8 a1 v9 h7) (fun v10 h11 => ?_)
      show jv_O X M_X12_spaces _ jeIX 46 [some (.ref (a0)), some (.int (a1)), none] [.int (v10)] h11 _
      refine jv_istore_n (L' := [some (.ref (a0)), some (.int (a1)), some (.int (v10))]) (jv_dk t_X12_spaces (k := 22) rfl) rfl (Nat.le_of_ble_eq_true rfl) rfl ?_
      refine jv_aload_n (jv_dk t_X12_spaces (k := 23) rfl) rfl rfl (Or.inr ⟨_, rfl⟩) ?_
      refine jv_gR (jv_dk t_X12_spaces (k := 24) rfl) fl_X12_36 (fun v12 => ?_)
      refine jv_iconst (v := 0) (jv_dk t_X12_spaces (k := 25) rfl) (by decide) ?_
      refine jv_pV (jv_dk t_X12_spaces (k := 26) rfl) fl_X12_58 kX6 (Or.inl rfl) rfl rfl rfl (fun h13 => ?_)
      refine jv_iload_n (jv_dk t_X12_spaces (k := 27) rfl) rfl rfl ?_
      refine jv_if_eq (tgt := 85) (jv_dk t_X12_spaces (k := 28) rfl) rfl (fun c14 => ?_) (fun c14 => ?_)
      · refine jv_aload_n (jv_dk t_X12_spaces (k := 45) rfl) rfl rfl (Or.inr ⟨_, rfl⟩) ?_
        refine jv_iconst (v := (-1)) (jv_dk t_X12_spaces (k := 46) rfl) (by decide) ?_
        refine jv_pV (jv_dk t_X12_spaces (k := 47) rfl) fl_X12_44 kX12 (Or.inl rfl) rfl rfl rfl (fun h15 => ?_)
        refine jv_aload_n (jv_dk t_X12_spaces (k := 48) rfl) rfl rfl (Or.inr ⟨_, rfl⟩) ?_
        refine jv_gR (jv_dk t_X12_spaces (k := 49) rfl) fl_X12_10 (fun v16 => ?_)
        refine jv_gR (jv_dk t_X12_spaces (k := 50) rfl) fl_X12_82 (fun v17 => ?_)
        refine jv_aload_n (jv_dk t_X12_spaces (k := 51) rfl) rfl rfl (Or.inr ⟨_, rfl⟩) ?_
        refine jv_gR (jv_dk t_X12_spaces (k := 52) rfl) fl_X12_23 (fun v18 => ?_)
        refine jv_callV (en' := jeV) (pv := jpV) (As := [.ref (v18)]) (S := []) (jv_dk t_X12_spaces (k := 53) rfl) (fun _ => rfl) lk_X12_68 me_X11_copy mv_X11_copy ⟨by decide, by decide⟩ rfl rfl rfl (Nat.le_of_ble_eq_true rfl) (P_X11_copy X v17 v18 h15) (fun _ h19 => ?_)
        show jv_O X M_X12_spaces _ jeIX 104 [some (.ref (a0)), some (.int (a1)), some (.int (v10))] [] h19 _
        refine jv_aload_n (jv_dk t_X12_spaces (k := 54) rfl) rfl rfl (Or.inr ⟨_, rfl⟩) ?_
        refine jv_gR (jv_dk t_X12_spaces (k := 55) rfl) fl_X12_10 (fun v20 => ?_)
        refine jv_iconst (v := 0) (jv_dk t_X12_spaces (k := 56) rfl) (by decide) ?_
        refine jv_pV (jv_dk t_X12_spaces (k := 57) rfl) fl_X12_85 kX8 (Or.inl rfl) rfl rfl rfl (fun h21 => ?_)
        refine jv_aload_n (jv_dk t_X12_spaces (k := 58) rfl) rfl rfl (Or.inr ⟨_, rfl⟩) ?_
        refine jv_gR (jv_dk t_X12_spaces (k := 59) rfl) fl_X12_10 (fun v22 => ?_)
        refine jv_gR (jv_dk t_X12_spaces (k := 60) rfl) fl_X12_88 (fun v23 => ?_)
        refine jv_iconst (v := 0) (jv_dk t_X12_spaces (k := 61) rfl) (by decide) ?_
        refine jv_pV (jv_dk t_X12_spaces (k := 62) rfl) fl_X12_92 kX3 (Or.inl rfl) rfl rfl rfl (fun h24 => ?_)
        refine jv_aload_n (jv_dk t_X12_spaces (k := 63) rfl) rfl rfl (Or.inr ⟨_, rfl⟩) ?_
        refine jv_iconst (v := 0) (jv_dk t_X12_spaces (k := 64) rfl) (by decide) ?_
        refine jv_pV (jv_dk t_X12_spaces (k := 65) rfl) fl_X12_54 kX12 (Or.inl rfl) rfl rfl rfl (fun h25 => ?_)
        refine jv_iconst (v := 0) (jv_dk t_X12_spaces (k := 66) rfl) (by decide) ?_
        exact jv_iret (ty := .int) (jv_dk t_X12_spaces (k := 67) rfl) rfl rfl rfl
      · show jv_O _ _ _ _ 59 _ _ _ _
        refine jv_aload_n (jv_dk t_X12_spaces (k := 29) rfl) rfl rfl (Or.inr ⟨_, rfl⟩) ?_
        refine jv_aload_n (jv_dk t_X12_spaces (k := 30) rfl) rfl rfl (Or.inr ⟨_, rfl⟩) ?_
        refine jv_gR (jv_dk t_X12_spaces (k := 31) rfl) fl_X12_36 (fun v26 => ?_)
        refine jv_gI (jv_dk t_X12_spaces (k := 32) rfl) fl_X12_76 (fun v27 => ?_)
        refine jv_pV (jv_dk t_X12_spaces (k := 33) rfl) fl_X12_44 kX12 (Or.inl rfl) rfl rfl rfl (fun h28 => ?_)
        refine jv_aload_n (jv_dk t_X12_spaces (k := 34) rfl) rfl rfl (Or.inr ⟨_, rfl⟩) ?_
        refine jv_gR (jv_dk t_X12_spaces (k := 35) rfl) fl_X12_10 (fun v29 => ?_)
        refine jv_gR (jv_dk t_X12_spaces (k := 36) rfl) fl_X12_79 (fun v30 => ?_)
        refine jv_iconst (v := 0) (jv_dk t_X12_spaces (k := 37) rfl) (by decide) ?_
        refine jv_dup2 (jv_dk t_X12_spaces (k := 38) rfl) rfl rfl ?_
        refine jv_iaload (jv_dk t_X12_spaces (k := 39) rfl) (fun v31 => ?_)
        refine jv_iconst (v := 1) (jv_dk t_X12_spaces (k := 40) rfl) (by decide) ?_
        refine jv_iadd (jv_dk t_X12_spaces (k := 41) rfl) ?_
        refine jv_iastore (jv_dk t_X12_spaces (k := 42) rfl) (fun h32 => ?_)
        refine jv_iload_n (jv_dk t_X12_spaces (k := 43) rfl) rfl rfl ?_
        exact jv_iret (ty := .int) (jv_dk t_X12_spaces (k := 44) rfl) rfl rfl rfl
    · show jv_O _ _ _ _ 15 _ _ _ _
      exact jv_throw (jv_dk t_X12_spaces (k := 7) rfl) (jv_dk t_X12_spaces (k := 8) rfl) (jv_dk t_X12_spaces (k := 9) rfl) (jv_dk t_X12_spaces (k := 10) rfl) rfl rfl (by decide) tw_65_67 (Nat.le_of_ble_eq_true rfl) ⟨by decide, by decide⟩ rfl
def t0_X12_fault : List (Nat × Instr × Nat) := [(0, .aload_n 0, 1), (1, .getfield 44, 3), (4, .ireturn, 1)]
theorem t_X12_fault : jv_dec cX12_fault t0_X12_fault = true := by decide +kernel
def M_X12_fault : jm := (yX12_fault, cX12_fault, 1, (some .int), 0, 0, [])
def f_X12_fault (a0 : Nat) (h : jh) : Option (Int32 × jh) :=
  gI h a0 10 6 fun v1 =>
  some (v1, h)
theorem P_X12_fault (X : jx) (a0 : Nat) (h : jh) : jv_P X M_X12_fault jeI [.ref (a0)] h (f_X12_fault a0 h) := by
  refine jv_P.of (by decide) rfl (by simp [Value.category]) (Nat.le_of_ble_eq_true rfl) ?_
  show jv_O X M_X12_fault (h.1, h.2.1) jeI 0 [some (.ref (a0))] [] h (f_X12_fault a0 h)
  unfold f_X12_fault
  refine jv_aload_n (jv_dk t_X12_fault (k := 0) rfl) rfl rfl (Or.inr ⟨_, rfl⟩) ?_
  refine jv_gI (jv_dk t_X12_fault (k := 1) rfl) fl_X12_44 (fun v1 => ?_)
  exact jv_iret (ty := .int) (jv_dk t_X12_fault (k := 2) rfl) rfl rfl rfl
def t0_J6_bitCount_0f7a4 : List (Nat × Instr × Nat) := [(0, .iload_n 0, 1), (1, .iload_n 0, 1), (2, .iconst 1, 1), (3, .iushr, 1), (4, .ldc_w 265, 3), (7, .iand, 1), (8, .isub, 1), (9, .istore_n 0, 1), (10, .iload_n 0, 1), (11, .ldc_w 266, 3), (14, .iand, 1), (15, .iload_n 0, 1), (16, .iconst 2, 1), (17, .iushr, 1), (18, .ldc_w 266, 3), (21, .iand, 1), (22, .iadd, 1), (23, .istore_n 0, 1), (24, .iload_n 0, 1), (25, .iload_n 0, 1), (26, .iconst 4, 1), (27, .iushr, 1), (28, .iadd, 1), (29, .ldc_w 267, 3), (32, .iand, 1), (33, .istore_n 0, 1), (34, .iload_n 0, 1), (35, .iload_n 0, 1), (36, .bipush 8, 2), (38, .iushr, 1), (39, .iadd, 1), (40, .istore_n 0, 1), (41, .iload_n 0, 1), (42, .iload_n 0, 1), (43, .bipush 16, 2), (45, .iushr, 1), (46, .iadd, 1), (47, .istore_n 0, 1), (48, .iload_n 0, 1), (49, .bipush 63, 2), (51, .iand, 1), (52, .ireturn, 1)]
theorem t_J6_bitCount_0f7a4 : jv_dec cJ6_bitCount_0f7a4 t0_J6_bitCount_0f7a4 = true := by decide +kernel
def M_J6_bitCount_0f7a4 : jm := (yJ6_bitCount_0f7a4, cJ6_bitCount_0f7a4, 1, (some .int), 0, 0, [])
theorem cn_J6_265 : Cond.constant RJ6 265 1431655765 ∈ lw_tbl := (jv_at 1109 (by decide +kernel))
theorem cn_J6_266 : Cond.constant RJ6 266 858993459 ∈ lw_tbl := (jv_at 1110 (by decide +kernel))
theorem cn_J6_267 : Cond.constant RJ6 267 252645135 ∈ lw_tbl := (jv_at 1111 (by decide +kernel))
def f_J6_bitCount_0f7a4 (a0 : Int32) (h : jh) : Option (Int32 × jh) :=
  some ((((((((a0 - (((a0.toUInt32 >>> ((1 : Int32).toUInt32 &&& Int32.toUInt32 31)).toInt32) &&& 1431655765)) &&& 858993459) + ((((a0 - (((a0.toUInt32 >>> ((1 : Int32).toUInt32 &&& Int32.toUInt32 31)).toInt32) &&& 1431655765)).toUInt32 >>> ((2 : Int32).toUInt32 &&& Int32.toUInt32 31)).toInt32) &&& 858993459)) + (((((a0 - (((a0.toUInt32 >>> ((1 : Int32).toUInt32 &&& Int32.toUInt32 31)).toInt32) &&& 1431655765)) &&& 858993459) + ((((a0 - (((a0.toUInt32 >>> ((1 : Int32).toUInt32 &&& Int32.toUInt32 31)).toInt32) &&& 1431655765)).toUInt32 >>> ((2 : Int32).toUInt32 &&& Int32.toUInt32 31)).toInt32) &&& 858993459)).toUInt32 >>> ((4 : Int32).toUInt32 &&& Int32.toUInt32 31)).toInt32)) &&& 252645135) + (((((((a0 - (((a0.toUInt32 >>> ((1 : Int32).toUInt32 &&& Int32.toUInt32 31)).toInt32) &&& 1431655765)) &&& 858993459) + ((((a0 - (((a0.toUInt32 >>> ((1 : Int32).toUInt32 &&& Int32.toUInt32 31)).toInt32) &&& 1431655765)).toUInt32 >>> ((2 : Int32).toUInt32 &&& Int32.toUInt32 31)).toInt32) &&& 858993459)) + (((((a0 - (((a0.toUInt32 >>> ((1 : Int32).toUInt32 &&& Int32.toUInt32 31)).toInt32) &&& 1431655765)) &&& 858993459) + ((((a0 - (((a0.toUInt32 >>> ((1 : Int32).toUInt32 &&& Int32.toUInt32 31)).toInt32) &&& 1431655765)).toUInt32 >>> ((2 : Int32).toUInt32 &&& Int32.toUInt32 31)).toInt32) &&& 858993459)).toUInt32 >>> ((4 : Int32).toUInt32 &&& Int32.toUInt32 31)).toInt32)) &&& 252645135).toUInt32 >>> ((8 : Int32).toUInt32 &&& Int32.toUInt32 31)).toInt32)) + ((((((((a0 - (((a0.toUInt32 >>> ((1 : Int32).toUInt32 &&& Int32.toUInt32 31)).toInt32) &&& 1431655765)) &&& 858993459) + ((((a0 - (((a0.toUInt32 >>> ((1 : Int32).toUInt32 &&& Int32.toUInt32 31)).toInt32) &&& 1431655765)).toUInt32 >>> ((2 : Int32).toUInt32 &&& Int32.toUInt32 31)).toInt32) &&& 858993459)) + (((((a0 - (((a0.toUInt32 >>> ((1 : Int32).toUInt32 &&& Int32.toUInt32 31)).toInt32) &&& 1431655765)) &&& 858993459) + ((((a0 - (((a0.toUInt32 >>> ((1 : Int32).toUInt32 &&& Int32.toUInt32 31)).toInt32) &&& 1431655765)).toUInt32 >>> ((2 : Int32).toUInt32 &&& Int32.toUInt32 31)).toInt32) &&& 858993459)).toUInt32 >>> ((4 : Int32).toUInt32 &&& Int32.toUInt32 31)).toInt32)) &&& 252645135) + (((((((a0 - (((a0.toUInt32 >>> ((1 : Int32).toUInt32 &&& Int32.toUInt32 31)).toInt32) &&& 1431655765)) &&& 858993459) + ((((a0 - (((a0.toUInt32 >>> ((1 : Int32).toUInt32 &&& Int32.toUInt32 31)).toInt32) &&& 1431655765)).toUInt32 >>> ((2 : Int32).toUInt32 &&& Int32.toUInt32 31)).toInt32) &&& 858993459)) + (((((a0 - (((a0.toUInt32 >>> ((1 : Int32).toUInt32 &&& Int32.toUInt32 31)).toInt32) &&& 1431655765)) &&& 858993459) + ((((a0 - (((a0.toUInt32 >>> ((1 : Int32).toUInt32 &&& Int32.toUInt32 31)).toInt32) &&& 1431655765)).toUInt32 >>> ((2 : Int32).toUInt32 &&& Int32.toUInt32 31)).toInt32) &&& 858993459)).toUInt32 >>> ((4 : Int32).toUInt32 &&& Int32.toUInt32 31)).toInt32)) &&& 252645135).toUInt32 >>> ((8 : Int32).toUInt32 &&& Int32.toUInt32 31)).toInt32)).toUInt32 >>> ((16 : Int32).toUInt32 &&& Int32.toUInt32 31)).toInt32)) &&& 63, h)
theorem P_J6_bitCount_0f7a4 (X : jx) (a0 : Int32) (h : jh) : jv_P X M_J6_bitCount_0f7a4 jeI [.int (a0)] h (f_J6_bitCount_0f7a4 a0 h) := by
  refine jv_P.of (by decide) rfl (by simp [Value.category]) (Nat.le_of_ble_eq_true rfl) ?_
  show jv_O X M_J6_bitCount_0f7a4 (h.1, h.2.1) jeI 0 [some (.int (a0))] [] h (f_J6_bitCount_0f7a4 a0 h)
  unfold f_J6_bitCount_0f7a4
  refine jv_iload_n (jv_dk t_J6_bitCount_0f7a4 (k := 0) rfl) rfl rfl ?_
  refine jv_iload_n (jv_dk t_J6_bitCount_0f7a4 (k := 1) rfl) rfl rfl ?_
  refine jv_iconst (v := 1) (jv_dk t_J6_bitCount_0f7a4 (k := 2) rfl) (by decide) ?_
  refine jv_iushr (jv_dk t_J6_bitCount_0f7a4 (k := 3) rfl) ?_
  refine jv_ldcw (jv_dk t_J6_bitCount_0f7a4 (k := 4) rfl) cn_J6_265 ?_
  refine jv_iand (jv_dk t_J6_bitCount_0f7a4 (k := 5) rfl) ?_
  refine jv_isub (jv_dk t_J6_bitCount_0f7a4 (k := 6) rfl) ?_
  refine jv_istore_n (L' := [some (.int (a0 - (((a0.toUInt32 >>> ((1 : Int32).toUInt32 &&& Int32.toUInt32 31)).toInt32) &&& 1431655765)))]) (jv_dk t_J6_bitCount_0f7a4 (k := 7) rfl) rfl (Nat.le_of_ble_eq_true rfl) rfl ?_
  refine jv_iload_n (jv_dk t_J6_bitCount_0f7a4 (k := 8) rfl) rfl rfl ?_
  refine jv_ldcw (jv_dk t_J6_bitCount_0f7a4 (k := 9) rfl) cn_J6_266 ?_
  refine jv_iand (jv_dk t_J6_bitCount_0f7a4 (k := 10) rfl) ?_
  refine jv_iload_n (jv_dk t_J6_bitCount_0f7a4 (k := 11) rfl) rfl rfl ?_
  refine jv_iconst (v := 2) (jv_dk t_J6_bitCount_0f7a4 (k := 12) rfl) (by decide) ?_
  refine jv_iushr (jv_dk t_J6_bitCount_0f7a4 (k := 13) rfl) ?_
  refine jv_ldcw (jv_dk t_J6_bitCount_0f7a4 (k := 14) rfl) cn_J6_266 ?_
  refine jv_iand (jv_dk t_J6_bitCount_0f7a4 (k := 15) rfl) ?_
  refine jv_iadd (jv_dk t_J6_bitCount_0f7a4 (k := 16) rfl) ?_
  refine jv_istore_n (L' := [some (.int (((a0 - (((a0.toUInt32 >>> ((1 : Int32).toUInt32 &&& Int32.toUInt32 31)).toInt32) &&& 1431655765)) &&& 858993459) + ((((a0 - (((a0.toUInt32 >>> ((1 : Int32).toUInt32 &&& Int32.toUInt32 31)).toInt32) &&& 1431655765)).toUInt32 >>> ((2 : Int32).toUInt32 &&& Int32.toUInt32 31)).toInt32) &&& 858993459)))]) (jv_dk t_J6_bitCount_0f7a4 (k := 17) rfl) rfl (Nat.le_of_ble_eq_true rfl) rfl ?_
  refine jv_iload_n (jv_dk t_J6_bitCount_0f7a4 (k := 18) rfl) rfl rfl ?_
  refine jv_iload_n (jv_dk t_J6_bitCount_0f7a4 (k := 19) rfl) rfl rfl ?_
  refine jv_iconst (v := 4) (jv_dk t_J6_bitCount_0f7a4 (k := 20) rfl) (by decide) ?_
  refine jv_iushr (jv_dk t_J6_bitCount_0f7a4 (k := 21) rfl) ?_
  refine jv_iadd (jv_dk t_J6_bitCount_0f7a4 (k := 22) rfl) ?_
  refine jv_ldcw (jv_dk t_J6_bitCount_0f7a4 (k := 23) rfl) cn_J6_267 ?_
  refine jv_iand (jv_dk t_J6_bitCount_0f7a4 (k := 24) rfl) ?_
  refine jv_istore_n (L' := [some (.int (((((a0 - (((a0.toUInt32 >>> ((1 : Int32).toUInt32 &&& Int32.toUInt32 31)).toInt32) &&& 1431655765)) &&& 858993459) + ((((a0 - (((a0.toUInt32 >>> ((1 : Int32).toUInt32 &&& Int32.toUInt32 31)).toInt32) &&& 1431655765)).toUInt32 >>> ((2 : Int32).toUInt32 &&& Int32.toUInt32 31)).toInt32) &&& 858993459)) + (((((a0 - (((a0.toUInt32 >>> ((1 : Int32).toUInt32 &&& Int32.toUInt32 31)).toInt32) &&& 1431655765)) &&& 858993459) + ((((a0 - (((a0.toUInt32 >>> ((1 : Int32).toUInt32 &&& Int32.toUInt32 31)).toInt32) &&& 1431655765)).toUInt32 >>> ((2 : Int32).toUInt32 &&& Int32.toUInt32 31)).toInt32) &&& 858993459)).toUInt32 >>> ((4 : Int32).toUInt32 &&& Int32.toUInt32 31)).toInt32)) &&& 252645135))]) (jv_dk t_J6_bitCount_0f7a4 (k := 25) rfl) rfl (Nat.le_of_ble_eq_true rfl) rfl ?_
  refine jv_iload_n (jv_dk t_J6_bitCount_0f7a4 (k := 26) rfl) rfl rfl ?_
  refine jv_iload_n (jv_dk t_J6_bitCount_0f7a4 (k := 27) rfl) rfl rfl ?_
  refine jv_bipush (v := 8) (jv_dk t_J6_bitCount_0f7a4 (k := 28) rfl) (by decide) ?_
  refine jv_iushr (jv_dk t_J6_bitCount_0f7a4 (k := 29) rfl) ?_
  refine jv_iadd (jv_dk t_J6_bitCount_0f7a4 (k := 30) rfl) ?_
  refine jv_istore_n (L' := [some (.int ((((((a0 - (((a0.toUInt32 >>> ((1 : Int32).toUInt32 &&& Int32.toUInt32 31)).toInt32) &&& 1431655765)) &&& 858993459) + ((((a0 - (((a0.toUInt32 >>> ((1 : Int32).toUInt32 &&& Int32.toUInt32 31)).toInt32) &&& 1431655765)).toUInt32 >>> ((2 : Int32).toUInt32 &&& Int32.toUInt32 31)).toInt32) &&& 858993459)) + (((((a0 - (((a0.toUInt32 >>> ((1 : Int32).toUInt32 &&& Int32.toUInt32 31)).toInt32) &&& 1431655765)) &&& 858993459) + ((((a0 - (((a0.toUInt32 >>> ((1 : Int32).toUInt32 &&& Int32.toUInt32 31)).toInt32) &&& 1431655765)).toUInt32 >>> ((2 : Int32).toUInt32 &&& Int32.toUInt32 31)).toInt32) &&& 858993459)).toUInt32 >>> ((4 : Int32).toUInt32 &&& Int32.toUInt32 31)).toInt32)) &&& 252645135) + (((((((a0 - (((a0.toUInt32 >>> ((1 : Int32).toUInt32 &&& Int32.toUInt32 31)).toInt32) &&& 1431655765)) &&& 858993459) + ((((a0 - (((a0.toUInt32 >>> ((1 : Int32).toUInt32 &&& Int32.toUInt32 31)).toInt32) &&& 1431655765)).toUInt32 >>> ((2 : Int32).toUInt32 &&& Int32.toUInt32 31)).toInt32) &&& 858993459)) + (((((a0 - (((a0.toUInt32 >>> ((1 : Int32).toUInt32 &&& Int32.toUInt32 31)).toInt32) &&& 1431655765)) &&& 858993459) + ((((a0 - (((a0.toUInt32 >>> ((1 : Int32).toUInt32 &&& Int32.toUInt32 31)).toInt32) &&& 1431655765)).toUInt32 >>> ((2 : Int32).toUInt32 &&& Int32.toUInt32 31)).toInt32) &&& 858993459)).toUInt32 >>> ((4 : Int32).toUInt32 &&& Int32.toUInt32 31)).toInt32)) &&& 252645135).toUInt32 >>> ((8 : Int32).toUInt32 &&& Int32.toUInt32 31)).toInt32)))]) (jv_dk t_J6_bitCount_0f7a4 (k := 31) rfl) rfl (Nat.le_of_ble_eq_true rfl) rfl ?_
  refine jv_iload_n (jv_dk t_J6_bitCount_0f7a4 (k := 32) rfl) rfl rfl ?_
  refine jv_iload_n (jv_dk t_J6_bitCount_0f7a4 (k := 33) rfl) rfl rfl ?_
  refine jv_bipush (v := 16) (jv_dk t_J6_bitCount_0f7a4 (k := 34) rfl) (by decide) ?_
  refine jv_iushr (jv_dk t_J6_bitCount_0f7a4 (k := 35) rfl) ?_
  refine jv_iadd (jv_dk t_J6_bitCount_0f7a4 (k := 36) rfl) ?_
  refine jv_istore_n (L' := [some (.int (((((((a0 - (((a0.toUInt32 >>> ((1 : Int32).toUInt32 &&& Int32.toUInt32 31)).toInt32) &&& 1431655765)) &&& 858993459) + ((((a0 - (((a0.toUInt32 >>> ((1 : Int32).toUInt32 &&& Int32.toUInt32 31)).toInt32) &&& 1431655765)).toUInt32 >>> ((2 : Int32).toUInt32 &&& Int32.toUInt32 31)).toInt32) &&& 858993459)) + (((((a0 - (((a0.toUInt32 >>> ((1 : Int32).toUInt32 &&& Int32.toUInt32 31)).toInt32) &&& 1431655765)) &&& 858993459) + ((((a0 - (((a0.toUInt32 >>> ((1 : Int32).toUInt32 &&& Int32.toUInt32 31)).toInt32) &&& 1431655765)).toUInt32 >>> ((2 : Int32).toUInt32 &&& Int32.toUInt32 31)).toInt32) &&& 858993459)).toUInt32 >>> ((4 : Int32).toUInt32 &&& Int32.toUInt32 31)).toInt32)) &&& 252645135) + (((((((a0 - (((a0.toUInt32 >>> ((1 : Int32).toUInt32 &&& Int32.toUInt32 31)).toInt32) &&& 1431655765)) &&& 858993459) + ((((a0 - (((a0.toUInt32 >>> ((1 : Int32).toUInt32 &&& Int32.toUInt32 31)).toInt32) &&& 1431655765)).toUInt32 >>> ((2 : Int32).toUInt32 &&& Int32.toUInt32 31)).toInt32) &&& 858993459)) + (((((a0 - (((a0.toUInt32 >>> ((1 : Int32).toUInt32 &&& Int32.toUInt32 31)).toInt32) &&& 1431655765)) &&& 858993459) + ((((a0 - (((a0.toUInt32 >>> ((1 : Int32).toUInt32 &&& Int32.toUInt32 31)).toInt32) &&& 1431655765)).toUInt32 >>> ((2 : Int32).toUInt32 &&& Int32.toUInt32 31)).toInt32) &&& 858993459)).toUInt32 >>> ((4 : Int32).toUInt32 &&& Int32.toUInt32 31)).toInt32)) &&& 252645135).toUInt32 >>> ((8 : Int32).toUInt32 &&& Int32.toUInt32 31)).toInt32)) + ((((((((a0 - (((a0.toUInt32 >>> ((1 : Int32).toUInt32 &&& Int32.toUInt32 31)).toInt32) &&& 1431655765)) &&& 858993459) + ((((a0 - (((a0.toUInt32 >>> ((1 : Int32).toUInt32 &&& Int32.toUInt32 31)).toInt32) &&& 1431655765)).toUInt32 >>> ((2 : Int32).toUInt32 &&& Int32.toUInt32 31)).toInt32) &&& 858993459)) + (((((a0 - (((a0.toUInt32 >>> ((1 : Int32).toUInt32 &&& Int32.toUInt32 31)).toInt32) &&& 1431655765)) &&& 858993459) + ((((a0 - (((a0.toUInt32 >>> ((1 : Int32).toUInt32 &&& Int32.toUInt32 31)).toInt32) &&& 1431655765)).toUInt32 >>> ((2 : Int32).toUInt32 &&& Int32.toUInt32 31)).toInt32) &&& 858993459)).toUInt32 >>> ((4 : Int32).toUInt32 &&& Int32.toUInt32 31)).toInt32)) &&& 252645135) + (((((((a0 - (((a0.toUInt32 >>> ((1 : Int32).toUInt32 &&& Int32.toUInt32 31)).toInt32) &&& 1431655765)) &&& 858993459) + ((((a0 - (((a0.toUInt32 >>> ((1 : Int32).toUInt32 &&& Int32.toUInt32 31)).toInt32) &&& 1431655765)).toUInt32 >>> ((2 : Int32).toUInt32 &&& Int32.toUInt32 31)).toInt32) &&& 858993459)) + (((((a0 - (((a0.toUInt32 >>> ((1 : Int32).toUInt32 &&& Int32.toUInt32 31)).toInt32) &&& 1431655765)) &&& 858993459) + ((((a0 - (((a0.toUInt32 >>> ((1 : Int32).toUInt32 &&& Int32.toUInt32 31)).toInt32) &&& 1431655765)).toUInt32 >>> ((2 : Int32).toUInt32 &&& Int32.toUInt32 31)).toInt32) &&& 858993459)).toUInt32 >>> ((4 : Int32).toUInt32 &&& Int32.toUInt32 31)).toInt32)) &&& 252645135).toUInt32 >>> ((8 : Int32).toUInt32 &&& Int32.toUInt32 31)).toInt32)).toUInt32 >>> ((16 : Int32).toUInt32 &&& Int32.toUInt32 31)).toInt32)))]) (jv_dk t_J6_bitCount_0f7a4 (k := 37) rfl) rfl (Nat.le_of_ble_eq_true rfl) rfl ?_
  refine jv_iload_n (jv_dk t_J6_bitCount_0f7a4 (k := 38) rfl) rfl rfl ?_
  refine jv_bipush (v := 63) (jv_dk t_J6_bitCount_0f7a4 (k := 39) rfl) (by decide) ?_
  refine jv_iand (jv_dk t_J6_bitCount_0f7a4 (k := 40) rfl) ?_
  exact jv_iret (ty := .int) (jv_dk t_J6_bitCount_0f7a4 (k := 41) rfl) rfl rfl rfl
def t0_X12_count : List (Nat × Instr × Nat) := [(0, .aload_n 0, 1), (1, .getfield 10, 3), (4, .getfield 82, 3), (7, .astore_n 2, 1), (8, .iload_n 1, 1), (9, .tableswitch 192 0 12 #[67, 75, 86, 97, 108, 119, 127, 135, 143, 154, 162, 172, 182], 67), (76, .aload_n 2, 1), (77, .getfield 97, 3), (80, .getfield 101, 3), (83, .ireturn, 1), (84, .aload_n 2, 1), (85, .getfield 97, 3), (88, .getfield 101, 3), (91, .invokestatic 106, 3), (94, .ireturn, 1), (95, .aload_n 2, 1), (96, .getfield 112, 3), (99, .getfield 116, 3), (102, .getfield 122, 3), (105, .ireturn, 1), (106, .aload_n 2, 1), (107, .getfield 125, 3), (110, .getfield 129, 3), (113, .getfield 122, 3), (116, .ireturn, 1), (117, .aload_n 2, 1), (118, .getfield 132, 3), (121, .getfield 136, 3), (124, .getfield 122, 3), (127, .ireturn, 1), (128, .aload_n 2, 1), (129, .getfield 112, 3), (132, .invokevirtual 139, 3), (135, .ireturn, 1), (136, .aload_n 2, 1), (137, .getfield 97, 3), (140, .getfield 143, 3), (143, .ireturn, 1), (144, .aload_n 0, 1), (145, .getfield 10, 3), (148, .getfield 85, 3), (151, .ireturn, 1), (152, .aload_n 0, 1), (153, .getfield 10, 3), (156, .getfield 88, 3), (159, .getfield 92, 3), (162, .ireturn, 1), (163, .aload_n 0, 1), (164, .getfield 36, 3), (167, .getfield 58, 3), (170, .ireturn, 1), (171, .aload_n 0, 1), (172, .getfield 10, 3), (175, .getfield 79, 3), (178, .iconst 0, 1), (179, .iaload, 1), (180, .ireturn, 1), (181, .aload_n 0, 1), (182, .getfield 10, 3), (185, .getfield 79, 3), (188, .iconst 1, 1), (189, .iaload, 1), (190, .ireturn, 1), (191, .aload_n 0, 1), (192, .getfield 10, 3), (195, .getfield 79, 3), (198, .iconst 2, 1), (199, .iaload, 1), (200, .ireturn, 1), (201, .new 146, 3), (204, .dup, 1), (205, .invokespecial 148, 3), (208, .athrow, 1)]
theorem t_X12_count : jv_dec cX12_count t0_X12_count = true := by decide +kernel
def M_X12_count : jm := (yX12_count, cX12_count, 3, (some .int), 6, 100, [])
theorem tw_146_148 : jv_thw 146 148 "java/util/NoSuchElementException" := by unfold jv_thw; decide +kernel
theorem fl_X12_97 : jv_F RX12 97 9 0 RX11 TX11 4 := ⟨rfl, by decide, inX11, Or.inr ⟨"SpaceWarden", (jv_at 369 (by decide +kernel))⟩⟩
theorem fl_X12_143 : jv_F RX12 143 3 8 RX5 TX5 9 := ⟨rfl, by decide, inX5, Or.inr ⟨"SpaceWarden", (jv_at 241 (by decide +kernel))⟩⟩
theorem fl_X12_112 : jv_F RX12 112 9 1 RX11 TX11 4 := ⟨rfl, by decide, inX11, Or.inr ⟨"SpaceWarden", (jv_at 372 (by decide +kernel))⟩⟩
theorem lk_X12_139 : jv_lk RX12 139 M_X4_dead := Or.inr ⟨"SpaceWarden", (jv_at 1112 (by decide +kernel))⟩
set_option maxRecDepth 20000 in
theorem me_X4_dead : jv_me M_X4_dead 0 := ⟨(jv_in4 (List.mem_of_getElem? (i := 235) rfl)), (jv_at 165 (by decide +kernel)), ⟨by decide, by decide⟩, by decide +kernel⟩
theorem mv_X4_dead : jv_mv M_X4_dead := ⟨(jv_at 1114 (by decide +kernel)), (jv_at 76 (by decide +kernel))⟩
theorem fl_X12_132 : jv_F RX12 132 9 3 RX11 TX11 4 := ⟨rfl, by decide, inX11, Or.inr ⟨"SpaceWarden", (jv_at 378 (by decide +kernel))⟩⟩
theorem fl_X12_136 : jv_F RX12 136 0 0 RX2 TX2 4 := ⟨rfl, by decide, inX2, Or.inr ⟨"SpaceWarden", (jv_at 348 (by decide +kernel))⟩⟩
theorem fl_X12_122 : jv_F RX12 122 7 1 RX9 TX9 2 := ⟨rfl, by decide, inX9, Or.inr ⟨"SpaceWarden", (jv_at 278 (by decide +kernel))⟩⟩
theorem fl_X12_125 : jv_F RX12 125 9 2 RX11 TX11 4 := ⟨rfl, by decide, inX11, Or.inr ⟨"SpaceWarden", (jv_at 375 (by decide +kernel))⟩⟩
theorem fl_X12_129 : jv_F RX12 129 8 0 RX10 TX10 6 := ⟨rfl, by decide, inX10, Or.inr ⟨"SpaceWarden", (jv_at 313 (by decide +kernel))⟩⟩
theorem fl_X12_116 : jv_F RX12 116 2 0 RX4 TX4 4 := ⟨rfl, by decide, inX4, Or.inr ⟨"SpaceWarden", (jv_at 287 (by decide +kernel))⟩⟩
theorem fl_X12_101 : jv_F RX12 101 3 7 RX5 TX5 9 := ⟨rfl, by decide, inX5, Or.inr ⟨"SpaceWarden", (jv_at 238 (by decide +kernel))⟩⟩
theorem lk_X12_106 : Cond.methodLink RX12 106 M_J6_bitCount_0f7a4.1 ∈ lw_tbl := (jv_at 1106 (by decide +kernel))
set_option maxRecDepth 20000 in
theorem me_J6_bitCount_0f7a4 : jv_me M_J6_bitCount_0f7a4 1 := ⟨(jv_in4 (List.mem_of_getElem? (i := 228) rfl)), (jv_at 186 (by decide +kernel)), ⟨by decide, by decide⟩, by decide +kernel⟩
theorem ms_J6_bitCount_0f7a4 : jv_ms M_J6_bitCount_0f7a4 := (jv_at 1107 (by decide +kernel))
def f_X12_count (a0 : Nat) (a1 : Int32) (h : jh) : Option ((Int32 ⊕ String) × jh) :=
  gR h a0 10 0 fun v1 =>
  gR h v1 6 0 fun v2 =>
  (if a1 = 0 then
  gR h v2 9 0 fun v50 =>
  gI h v50 3 7 fun v51 =>
  some (.inl v51, h)
  else
  (if a1 = 1 then
  gR h v2 9 0 fun v46 =>
  gI h v46 3 7 fun v47 =>
  bd (f_J6_bitCount_0f7a4 v47 h) fun v48 h49 =>
  some (.inl v48, h49)
  else
  (if a1 = 2 then
  gR h v2 9 1 fun v43 =>
  gR h v43 2 0 fun v44 =>
  gI h v44 7 1 fun v45 =>
  some (.inl v45, h)
  else
  (if a1 = 3 then
  gR h v2 9 2 fun v40 =>
  gR h v40 8 0 fun v41 =>
  gI h v41 7 1 fun v42 =>
  some (.inl v42, h)
  else
  (if a1 = 4 then
  gR h v2 9 3 fun v37 =>
  gR h v37 0 0 fun v38 =>
  gI h v38 7 1 fun v39 =>
  some (.inl v39, h)
  else
  (if a1 = 5 then
  gR h v2 9 1 fun v34 =>
  cV h v34 2 (f_X4_dead v34 h) fun v35 h36 =>
  some (.inl v35, h36)
  else
  (if a1 = 6 then
  gR h v2 9 0 fun v32 =>
  gI h v32 3 8 fun v33 =>
  some (.inl v33, h)
  else
  (if a1 = 7 then
  gR h a0 10 0 fun v30 =>
  gI h v30 6 5 fun v31 =>
  some (.inl v31, h)
  else
  (if a1 = 8 then
  gR h a0 10 0 fun v27 =>
  gR h v27 6 2 fun v28 =>
  gI h v28 1 3 fun v29 =>
  some (.inl v29, h)
  else
  (if a1 = 9 then
  gR h a0 10 4 fun v25 =>
  gI h v25 4 2 fun v26 =>
  some (.inl v26, h)
  else
  (if a1 = 10 then
  gR h a0 10 0 fun v22 =>
  gR h v22 6 3 fun v23 =>
  aI h v23 0 fun v24 =>
  some (.inl v24, h)
  else
  (if a1 = 11 then
  gR h a0 10 0 fun v19 =>
  gR h v19 6 3 fun v20 =>
  aI h v20 1 fun v21 =>
  some (.inl v21, h)
  else
  (if a1 = 12 then
  gR h a0 10 0 fun v16 =>
  gR h v16 6 3 fun v17 =>
  aI h v17 2 fun v18 =>
  some (.inl v18, h)
  else
  some (.inr "java/util/NoSuchElementException", jt h))))))))))))))
theorem P_X12_count (X : jx) (a0 : Nat) (a1 : Int32) (h : jh) : jv_P X M_X12_count jeIX [.ref (a0), .int (a1)] h (f_X12_count a0 a1 h) := by
  refine jv_P.of (by decide) rfl (by simp [Value.category]) (Nat.le_of_ble_eq_true rfl) ?_
  show jv_O X M_X12_count (h.1, h.2.1) jeIX 0 [some (.ref (a0)), some (.int (a1)), none] [] h (f_X12_count a0 a1 h)
  unfold f_X12_count
  refine jv_aload_n (jv_dk t_X12_count (k := 0) rfl) rfl rfl (Or.inr ⟨_, rfl⟩) ?_
  refine jv_gR (jv_dk t_X12_count (k := 1) rfl) fl_X12_10 (fun v1 => ?_)
  refine jv_gR (jv_dk t_X12_count (k := 2) rfl) fl_X12_82 (fun v2 => ?_)
  refine jv_astore_n (L' := [some (.ref (a0)), some (.int (a1)), some (.ref (v2))]) (jv_dk t_X12_count (k := 3) rfl) rfl (Nat.le_of_ble_eq_true rfl) (Or.inr ⟨_, rfl⟩) rfl ?_
  refine jv_iload_n (jv_dk t_X12_count (k := 4) rfl) rfl rfl ?_
  by_cases c3 : a1 = 0
  · rw [if_pos c3]
    refine jv_tbl (tgt := 76) (jv_dk t_X12_count (k := 5) rfl) (by rw [c3] <;> decide) (by rw [c3] <;> decide) (by rw [c3] <;> rfl) rfl ?_
    refine jv_aload_n (jv_dk t_X12_count (k := 6) rfl) rfl rfl (Or.inr ⟨_, rfl⟩) ?_
    refine jv_gR (jv_dk t_X12_count (k := 7) rfl) fl_X12_97 (fun v50 => ?_)
    refine jv_gI (jv_dk t_X12_count (k := 8) rfl) fl_X12_101 (fun v51 => ?_)
    exact jv_iret (ty := .int) (jv_dk t_X12_count (k := 9) rfl) rfl rfl rfl
  rw [if_neg c3]
  by_cases c4 : a1 = 1
  · rw [if_pos c4]
    refine jv_tbl (tgt := 84) (jv_dk t_X12_count (k := 5) rfl) (by rw [c4] <;> decide) (by rw [c4] <;> decide) (by rw [c4] <;> rfl) rfl ?_
    refine jv_aload_n (jv_dk t_X12_count (k := 10) rfl) rfl rfl (Or.inr ⟨_, rfl⟩) ?_
    refine jv_gR (jv_dk t_X12_count (k := 11) rfl) fl_X12_97 (fun v46 => ?_)
    refine jv_gI (jv_dk t_X12_count (k := 12) rfl) fl_X12_101 (fun v47 => ?_)
    refine jv_callS (en' := jeI) (pv := jpI) (As := [.int (v47)]) (S := []) (jv_dk t_X12_count (k := 13) rfl) (fun _ => rfl) (Or.inl lk_X12_106) me_J6_bitCount_0f7a4 ms_J6_bitCount_0f7a4 ⟨by decide, by decide⟩ rfl rfl (Nat.le_of_ble_eq_true rfl) (P_J6_bitCount_0f7a4 X v47 h) (fun v48 h49 => ?_)
    show jv_O X M_X12_count _ jeIX 94 [some (.ref (a0)), some (.int (a1)), some (.ref (v2))] [.int (v48)] h49 _
    exact jv_iret (ty := .int) (jv_dk t_X12_count (k := 14) rfl) rfl rfl rfl
  rw [if_neg c4]
  by_cases c5 : a1 = 2
  · rw [if_pos c5]
    refine jv_tbl (tgt := 95) (jv_dk t_X12_count (k := 5) rfl) (by rw [c5] <;> decide) (by rw [c5] <;> decide) (by rw [c5] <;> rfl) rfl ?_
    refine jv_aload_n (jv_dk t_X12_count (k := 15) rfl) rfl rfl (Or.inr ⟨_, rfl⟩) ?_
    refine jv_gR (jv_dk t_X12_count (k := 16) rfl) fl_X12_112 (fun v43 => ?_)
    refine jv_gR (jv_dk t_X12_count (k := 17) rfl) fl_X12_116 (fun v44 => ?_)
    refine jv_gI (jv_dk t_X12_count (k := 18) rfl) fl_X12_122 (fun v45 => ?_)
    exact jv_iret (ty := .int) (jv_dk t_X12_count (k := 19) rfl) rfl rfl rfl
  rw [if_neg c5]
  by_cases c6 : a1 = 3
  · rw [if_pos c6]
    refine jv_tbl (tgt := 106) (jv_dk t_X12_count (k := 5) rfl) (by rw [c6] <;> decide) (by rw [c6] <;> decide) (by rw [c6] <;> rfl) rfl ?_
    refine jv_aload_n (jv_dk t_X12_count (k := 20) rfl) rfl rfl (Or.inr ⟨_, rfl⟩) ?_
    refine jv_gR (jv_dk t_X12_count (k := 21) rfl) fl_X12_125 (fun v40 => ?_)
    refine jv_gR (jv_dk t_X12_count (k := 22) rfl) fl_X12_129 (fun v41 => ?_)
    refine jv_gI (jv_dk t_X12_count (k := 23) rfl) fl_X12_122 (fun v42 => ?_)
    exact jv_iret (ty := .int) (jv_dk t_X12_count (k := 24) rfl) rfl rfl rfl
  rw [if_neg c6]
  by_cases c7 : a1 = 4
  · rw [if_pos c7]
    refine jv_tbl (tgt := 117) (jv_dk t_X12_count (k := 5) rfl) (by rw [c7] <;> decide) (by rw [c7] <;> decide) (by rw [c7] <;> rfl) rfl ?_
    refine jv_aload_n (jv_dk t_X12_count (k := 25) rfl) rfl rfl (Or.inr ⟨_, rfl⟩) ?_
    refine jv_gR (jv_dk t_X12_count (k := 26) rfl) fl_X12_132 (fun v37 => ?_)
    refine jv_gR (jv_dk t_X12_count (k := 27) rfl) fl_X12_136 (fun v38 => ?_)
    refine jv_gI (jv_dk t_X12_count (k := 28) rfl) fl_X12_122 (fun v39 => ?_)
    exact jv_iret (ty := .int) (jv_dk t_X12_count (k := 29) rfl) rfl rfl rfl
  rw [if_neg c7]
  by_cases c8 : a1 = 5
  · rw [if_pos c8]
    refine jv_tbl (tgt := 128) (jv_dk t_X12_count (k := 5) rfl) (by rw [c8] <;> decide) (by rw [c8] <;> decide) (by rw [c8] <;> rfl) rfl ?_
    refine jv_aload_n (jv_dk t_X12_count (k := 30) rfl) rfl rfl (Or.inr ⟨_, rfl⟩) ?_
    refine jv_gR (jv_dk t_X12_count (k := 31) rfl) fl_X12_112 (fun v34 => ?_)
    refine jv_callV (en' := jeI) (pv := jpI) (As := []) (S := []) (jv_dk t_X12_count (k := 32) rfl) (fun _ => rfl) lk_X12_139 me_X4_dead mv_X4_dead ⟨by decide, by decide⟩ rfl rfl rfl (Nat.le_of_ble_eq_true rfl) (P_X4_dead X v34 h) (fun v35 h36 => ?_)
    show jv_O X M_X12_count _ jeIX 135 [some (.ref (a0)), some (.int (a1)), some (.ref (v2))] [.int (v35)] h36 _
    exact jv_iret (ty := .int) (jv_dk t_X12_count (k := 33) rfl) rfl rfl rfl
  rw [if_neg c8]
  by_cases c9 : a1 = 6
  · rw [if_pos c9]
    refine jv_tbl (tgt := 136) (jv_dk t_X12_count (k := 5) rfl) (by rw [c9] <;> decide) (by rw [c9] <;> decide) (by rw [c9] <;> rfl) rfl ?_
    refine jv_aload_n (jv_dk t_X12_count (k := 34) rfl) rfl rfl (Or.inr ⟨_, rfl⟩) ?_
    refine jv_gR (jv_dk t_X12_count (k := 35) rfl) fl_X12_97 (fun v32 => ?_)
    refine jv_gI (jv_dk t_X12_count (k := 36) rfl) fl_X12_143 (fun v33 => ?_)
    exact jv_iret (ty := .int) (jv_dk t_X12_count (k := 37) rfl) rfl rfl rfl
  rw [if_neg c9]
  by_cases c10 : a1 = 7
  · rw [if_pos c10]
    refine jv_tbl (tgt := 144) (jv_dk t_X12_count (k := 5) rfl) (by rw [c10] <;> decide) (by rw [c10] <;> decide) (by rw [c10] <;> rfl) rfl ?_
    refine jv_aload_n (jv_dk t_X12_count (k := 38) rfl) rfl rfl (Or.inr ⟨_, rfl⟩) ?_
    refine jv_gR (jv_dk t_X12_count (k := 39) rfl) fl_X12_10 (fun v30 => ?_)
    refine jv_gI (jv_dk t_X12_count (k := 40) rfl) fl_X12_85 (fun v31 => ?_)
    exact jv_iret (ty := .int) (jv_dk t_X12_count (k := 41) rfl) rfl rfl rfl
  rw [if_neg c10]
  by_cases c11 : a1 = 8
  · rw [if_pos c11]
    refine jv_tbl (tgt := 152) (jv_dk t_X12_count (k := 5) rfl) (by rw [c11] <;> decide) (by rw [c11] <;> decide) (by rw [c11] <;> rfl) rfl ?_
    refine jv_aload_n (jv_dk t_X12_count (k := 42) rfl) rfl rfl (Or.inr ⟨_, rfl⟩) ?_
    refine jv_gR (jv_dk t_X12_count (k := 43) rfl) fl_X12_10 (fun v27 => ?_)
    refine jv_gR (jv_dk t_X12_count (k := 44) rfl) fl_X12_88 (fun v28 => ?_)
    refine jv_gI (jv_dk t_X12_count (k := 45) rfl) fl_X12_92 (fun v29 => ?_)
    exact jv_iret (ty := .int) (jv_dk t_X12_count (k := 46) rfl) rfl rfl rfl
  rw [if_neg c11]
  by_cases c12 : a1 = 9
  · rw [if_pos c12]
    refine jv_tbl (tgt := 163) (jv_dk t_X12_count (k := 5) rfl) (by rw [c12] <;> decide) (by rw [c12] <;> decide) (by rw [c12] <;> rfl) rfl ?_
    refine jv_aload_n (jv_dk t_X12_count (k := 47) rfl) rfl rfl (Or.inr ⟨_, rfl⟩) ?_
    refine jv_gR (jv_dk t_X12_count (k := 48) rfl) fl_X12_36 (fun v25 => ?_)
    refine jv_gI (jv_dk t_X12_count (k := 49) rfl) fl_X12_58 (fun v26 => ?_)
    exact jv_iret (ty := .int) (jv_dk t_X12_count (k := 50) rfl) rfl rfl rfl
  rw [if_neg c12]
  by_cases c13 : a1 = 10
  · rw [if_pos c13]
    refine jv_tbl (tgt := 171) (jv_dk t_X12_count (k := 5) rfl) (by rw [c13] <;> decide) (by rw [c13] <;> decide) (by rw [c13] <;> rfl) rfl ?_
    refine jv_aload_n (jv_dk t_X12_count (k := 51) rfl) rfl rfl (Or.inr ⟨_, rfl⟩) ?_
    refine jv_gR (jv_dk t_X12_count (k := 52) rfl) fl_X12_10 (fun v22 => ?_)
    refine jv_gR (jv_dk t_X12_count (k := 53) rfl) fl_X12_79 (fun v23 => ?_)
    refine jv_iconst (v := 0) (jv_dk t_X12_count (k := 54) rfl) (by decide) ?_
    refine jv_iaload (jv_dk t_X12_count (k := 55) rfl) (fun v24 => ?_)
    exact jv_iret (ty := .int) (jv_dk t_X12_count (k := 56) rfl) rfl rfl rfl
  rw [if_neg c13]
  by_cases c14 : a1 = 11
  · rw [if_pos c14]
    refine jv_tbl (tgt := 181) (jv_dk t_X12_count (k := 5) rfl) (by rw [c14] <;> decide) (by rw [c14] <;> decide) (by rw [c14] <;> rfl) rfl ?_
    refine jv_aload_n (jv_dk t_X12_count (k := 57) rfl) rfl rfl (Or.inr ⟨_, rfl⟩) ?_
    refine jv_gR (jv_dk t_X12_count (k := 58) rfl) fl_X12_10 (fun v19 => ?_)
    refine jv_gR (jv_dk t_X12_count (k := 59) rfl) fl_X12_79 (fun v20 => ?_)
    refine jv_iconst (v := 1) (jv_dk t_X12_count (k := 60) rfl) (by decide) ?_
    refine jv_iaload (jv_dk t_X12_count (k := 61) rfl) (fun v21 => ?_)
    exact jv_iret (ty := .int) (jv_dk t_X12_count (k := 62) rfl) rfl rfl rfl
  rw [if_neg c14]
  by_cases c15 : a1 = 12
  · rw [if_pos c15]
    refine jv_tbl (tgt := 191) (jv_dk t_X12_count (k := 5) rfl) (by rw [c15] <;> decide) (by rw [c15] <;> decide) (by rw [c15] <;> rfl) rfl ?_
    refine jv_aload_n (jv_dk t_X12_count (k := 63) rfl) rfl rfl (Or.inr ⟨_, rfl⟩) ?_
    refine jv_gR (jv_dk t_X12_count (k := 64) rfl) fl_X12_10 (fun v16 => ?_)
    refine jv_gR (jv_dk t_X12_count (k := 65) rfl) fl_X12_79 (fun v17 => ?_)
    refine jv_iconst (v := 2) (jv_dk t_X12_count (k := 66) rfl) (by decide) ?_
    refine jv_iaload (jv_dk t_X12_count (k := 67) rfl) (fun v18 => ?_)
    exact jv_iret (ty := .int) (jv_dk t_X12_count (k := 68) rfl) rfl rfl rfl
  rw [if_neg c15]
  have e_c3 := jv_ne (x := a1) (k := 0) (by decide) (by decide) c3
  have e_c4 := jv_ne (x := a1) (k := 1) (by decide) (by decide) c4
  have e_c5 := jv_ne (x := a1) (k := 2) (by decide) (by decide) c5
  have e_c6 := jv_ne (x := a1) (k := 3) (by decide) (by decide) c6
  have e_c7 := jv_ne (x := a1) (k := 4) (by decide) (by decide) c7
  have e_c8 := jv_ne (x := a1) (k := 5) (by decide) (by decide) c8
  have e_c9 := jv_ne (x := a1) (k := 6) (by decide) (by decide) c9
  have e_c10 := jv_ne (x := a1) (k := 7) (by decide) (by decide) c10
  have e_c11 := jv_ne (x := a1) (k := 8) (by decide) (by decide) c11
  have e_c12 := jv_ne (x := a1) (k := 9) (by decide) (by decide) c12
  have e_c13 := jv_ne (x := a1) (k := 10) (by decide) (by decide) c13
  have e_c14 := jv_ne (x := a1) (k := 11) (by decide) (by decide) c14
  have e_c15 := jv_ne (x := a1) (k := 12) (by decide) (by decide) c15
  refine jv_tblOut (tgt := 201) (jv_dk t_X12_count (k := 5) rfl) (by omega) rfl ?_
  exact jv_throw (jv_dk t_X12_count (k := 69) rfl) (jv_dk t_X12_count (k := 70) rfl) (jv_dk t_X12_count (k := 71) rfl) (jv_dk t_X12_count (k := 72) rfl) rfl rfl (by decide) tw_146_148 (Nat.le_of_ble_eq_true rfl) ⟨by decide, by decide⟩ rfl
