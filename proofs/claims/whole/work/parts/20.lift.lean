def t0_X12_holds : List (Nat × Instr × Nat) := [(0, .iload_n 0, 1), (1, .iload_n 1, 1), (2, .iushr, 1), (3, .iconst 1, 1), (4, .iand, 1), (5, .ifCond .eq 7, 3), (8, .iconst 1, 1), (9, .goto 4, 3), (12, .iconst 0, 1), (13, .ireturn, 1)]
theorem t_X12_holds : jv_dec cX12_holds t0_X12_holds = true := by decide +kernel
def M_X12_holds : jm := (yX12_holds, cX12_holds, 2, (some .boolean), 0, 0, [])
def f_X12_holds (a0 : Int32) (a1 : Int32) (h : jh) : Option (Int32 × jh) :=
  (if (((a0.toUInt32 >>> (a1.toUInt32 &&& Int32.toUInt32 31)).toInt32) &&& 1) = 0 then
  some (0, h)
  else
  some (1, h))
theorem P_X12_holds (X : jx) (a0 : Int32) (a1 : Int32) (h : jh) : jv_P X M_X12_holds jeI [.int (a0), .int (a1)] h (f_X12_holds a0 a1 h) := by
  refine jv_P.of (by decide) rfl (by simp [Value.category]) (Nat.le_of_ble_eq_true rfl) ?_
  show jv_O X M_X12_holds (h.1, h.2.1) jeI 0 [some (.int (a0)), some (.int (a1))] [] h (f_X12_holds a0 a1 h)
  unfold f_X12_holds
  refine jv_iload_n (jv_dk t_X12_holds (k := 0) rfl) rfl rfl ?_
  refine jv_iload_n (jv_dk t_X12_holds (k := 1) rfl) rfl rfl ?_
  refine jv_iushr (jv_dk t_X12_holds (k := 2) rfl) ?_
  refine jv_iconst (v := 1) (jv_dk t_X12_holds (k := 3) rfl) (by decide) ?_
  refine jv_iand (jv_dk t_X12_holds (k := 4) rfl) ?_
  refine jv_if_eq (tgt := 12) (jv_dk t_X12_holds (k := 5) rfl) rfl (fun c1 => ?_) (fun c1 => ?_)
  · refine jv_iconst (v := 0) (jv_dk t_X12_holds (k := 8) rfl) (by decide) ?_
    exact jv_iret (ty := .boolean) (jv_dk t_X12_holds (k := 9) rfl) rfl rfl rfl
  · show jv_O _ _ _ _ 8 _ _ _ _
    refine jv_iconst (v := 1) (jv_dk t_X12_holds (k := 6) rfl) (by decide) ?_
    refine jv_goto (tgt := 13) (jv_dk t_X12_holds (k := 7) rfl) rfl ?_
    exact jv_iret (ty := .boolean) (jv_dk t_X12_holds (k := 9) rfl) rfl rfl rfl
def t0_X9_around : List (Nat × Instr × Nat) := [(0, .iload_n 1, 1), (1, .ifCond .lt 26, 3), (4, .iload_n 1, 1), (5, .aload_n 0, 1), (6, .getfield 15, 3), (9, .if_icmp .ge 18, 3), (12, .iload_n 1, 1), (13, .bipush 8, 2), (15, .if_icmp .ge 12, 3), (18, .aload_n 0, 1), (19, .getfield 9, 3), (22, .iload_n 1, 1), (23, .iaload, 1), (24, .goto 4, 3), (27, .iconst (-1), 1), (28, .ireturn, 1)]
theorem t_X9_around : jv_dec cX9_around t0_X9_around = true := by decide +kernel
def M_X9_around : jm := (yX9_around, cX9_around, 2, (some .int), 0, 0, [])
theorem fl_X9_15 : jv_F RX9 15 7 1 RX9 TX9 2 := ⟨rfl, by decide, inX9, Or.inl (jv_at 276 (by decide +kernel))⟩
theorem fl_X9_9 : jv_F RX9 9 7 0 RX9 TX9 2 := ⟨rfl, by decide, inX9, Or.inl (jv_at 275 (by decide +kernel))⟩
def f_X9_around (a0 : Nat) (a1 : Int32) (h : jh) : Option (Int32 × jh) :=
  (if a1 < 0 then
  some ((-1), h)
  else
  gI h a0 7 1 fun v2 =>
  (if v2 ≤ a1 then
  some ((-1), h)
  else
  (if 8 ≤ a1 then
  some ((-1), h)
  else
  gR h a0 7 0 fun v5 =>
  aI h v5 a1 fun v6 =>
  some (v6, h))))
theorem P_X9_around (X : jx) (a0 : Nat) (a1 : Int32) (h : jh) : jv_P X M_X9_around jeI [.ref (a0), .int (a1)] h (f_X9_around a0 a1 h) := by
  refine jv_P.of (by decide) rfl (by simp [Value.category]) (Nat.le_of_ble_eq_true rfl) ?_
  show jv_O X M_X9_around (h.1, h.2.1) jeI 0 [some (.ref (a0)), some (.int (a1))] [] h (f_X9_around a0 a1 h)
  unfold f_X9_around
  refine jv_iload_n (jv_dk t_X9_around (k := 0) rfl) rfl rfl ?_
  refine jv_if_lt (tgt := 27) (jv_dk t_X9_around (k := 1) rfl) rfl (fun c1 => ?_) (fun c1 => ?_)
  · refine jv_iconst (v := (-1)) (jv_dk t_X9_around (k := 14) rfl) (by decide) ?_
    exact jv_iret (ty := .int) (jv_dk t_X9_around (k := 15) rfl) rfl rfl rfl
  · show jv_O _ _ _ _ 4 _ _ _ _
    refine jv_iload_n (jv_dk t_X9_around (k := 2) rfl) rfl rfl ?_
    refine jv_aload_n (jv_dk t_X9_around (k := 3) rfl) rfl rfl (Or.inr ⟨_, rfl⟩) ?_
    refine jv_gI (jv_dk t_X9_around (k := 4) rfl) fl_X9_15 (fun v2 => ?_)
    refine jv_icmp_ge (tgt := 27) (jv_dk t_X9_around (k := 5) rfl) rfl (fun c3 => ?_) (fun c3 => ?_)
    · refine jv_iconst (v := (-1)) (jv_dk t_X9_around (k := 14) rfl) (by decide) ?_
      exact jv_iret (ty := .int) (jv_dk t_X9_around (k := 15) rfl) rfl rfl rfl
    · show jv_O _ _ _ _ 12 _ _ _ _
      refine jv_iload_n (jv_dk t_X9_around (k := 6) rfl) rfl rfl ?_
      refine jv_bipush (v := 8) (jv_dk t_X9_around (k := 7) rfl) (by decide) ?_
      refine jv_icmp_ge (tgt := 27) (jv_dk t_X9_around (k := 8) rfl) rfl (fun c4 => ?_) (fun c4 => ?_)
      · refine jv_iconst (v := (-1)) (jv_dk t_X9_around (k := 14) rfl) (by decide) ?_
        exact jv_iret (ty := .int) (jv_dk t_X9_around (k := 15) rfl) rfl rfl rfl
      · show jv_O _ _ _ _ 18 _ _ _ _
        refine jv_aload_n (jv_dk t_X9_around (k := 9) rfl) rfl rfl (Or.inr ⟨_, rfl⟩) ?_
        refine jv_gR (jv_dk t_X9_around (k := 10) rfl) fl_X9_9 (fun v5 => ?_)
        refine jv_iload_n (jv_dk t_X9_around (k := 11) rfl) rfl rfl ?_
        refine jv_iaload (jv_dk t_X9_around (k := 12) rfl) (fun v6 => ?_)
        refine jv_goto (tgt := 28) (jv_dk t_X9_around (k := 13) rfl) rfl ?_
        exact jv_iret (ty := .int) (jv_dk t_X9_around (k := 15) rfl) rfl rfl rfl
def t0_X9_isUnder : List (Nat × Instr × Nat) := [(0, .iload_n 1, 1), (1, .istore_n 3, 1), (2, .iconst 0, 1), (3, .istore 4, 2), (5, .iload 4, 2), (7, .bipush 8, 2), (9, .if_icmp .ge 27, 3), (12, .iload_n 3, 1), (13, .iconst (-1), 1), (14, .if_icmp .eq 22, 3), (17, .iload_n 3, 1), (18, .iload_n 2, 1), (19, .if_icmp .ne 5, 3), (22, .iconst 1, 1), (23, .ireturn, 1), (24, .aload_n 0, 1), (25, .iload_n 3, 1), (26, .invokevirtual 23, 3), (29, .istore_n 3, 1), (30, .iinc 4 1, 3), (33, .goto (-28), 3), (36, .iconst 0, 1), (37, .ireturn, 1)]
theorem t_X9_isUnder : jv_dec cX9_isUnder t0_X9_isUnder = true := by decide +kernel
def M_X9_isUnder : jm := (yX9_isUnder, cX9_isUnder, 5, (some .boolean), 1, 21, [])
theorem lk_X9_23 : Cond.methodLink RX9 23 M_X9_around.1 ∈ lw_tbl := (jv_at 672 (by decide +kernel))
set_option maxRecDepth 20000 in
theorem me_X9_around : jv_me M_X9_around 1 := ⟨(jv_in2 (List.mem_of_getElem? (i := 238) rfl)), (jv_at 166 (by decide +kernel)), ⟨by decide, by decide⟩, by decide +kernel⟩
theorem mv_X9_around : jv_mv M_X9_around := ⟨(jv_at 637 (by decide +kernel)), (jv_at 20 (by decide +kernel))⟩
def f_X9_isUnder_h5 (K5 : jh → Option (Int32 × jh)) (R5 : Nat → Int32 → Int32 → Int32 → jh → Option (Int32 × jh)) (x0 : Nat) (x2 : Int32) (x3 : Int32) (x4 : Int32) (h : jh) : Option (Int32 × jh) :=
  (if 8 ≤ x4 then
  K5  h
  else
  (if x3 = (-1) then
  K5  h
  else
  (if ¬ x3 = x2 then
  cV h x0 7 (f_X9_around x0 x3 h) fun v4 h5 =>
  R5 x0 x2 v4 (x4 + 1) h5
  else
  some (1, h))))
theorem o_f_X9_isUnder_h5 {X : jx} {b0 : Nat × Nat} {K5 : jh → Option (Int32 × jh)} (hK5 : ∀  (h : jh), jv_O X M_X9_isUnder b0 jeI 36 [none, none, none, none, none] [] h (K5  h)) : ∀ (x0 : Nat) (x2 : Int32) (x3 : Int32) (x4 : Int32) (h : jh), jv_O X M_X9_isUnder b0 jeI 5 [some (.ref (x0)), none, some (.int (x2)), some (.int (x3)), some (.int (x4))] [] h (jlp4 (f_X9_isUnder_h5 K5) jfu x0 x2 x3 x4 h) := by
  refine jlp4_ok (P := fun x0 x2 x3 x4 h o => jv_O X M_X9_isUnder b0 jeI 5 [some (.ref (x0)), none, some (.int (x2)), some (.int (x3)), some (.int (x4))] [] h o) (fun R5 hR5 => ?_) (fun _ _ _ _ _  => jv_none rfl) jfu
  intro x0 x2 x3 x4 h
  unfold f_X9_isUnder_h5
  refine jv_iload (jv_dk t_X9_isUnder (k := 4) rfl) rfl ?_
  refine jv_bipush (v := 8) (jv_dk t_X9_isUnder (k := 5) rfl) (by decide) ?_
  refine jv_icmp_ge (tgt := 36) (jv_dk t_X9_isUnder (k := 6) rfl) rfl (fun c1 => ?_) (fun c1 => ?_)
  · refine jv_le_row (jv_le_n (jv_le_n (jv_le_n (jv_le_n (jv_le_n (jv_le_nil)))))) ?_
    exact hK5 _ 
  · show jv_O _ _ _ _ 12 _ _ _ _
    refine jv_iload_n (jv_dk t_X9_isUnder (k := 7) rfl) rfl rfl ?_
    refine jv_iconst (v := (-1)) (jv_dk t_X9_isUnder (k := 8) rfl) (by decide) ?_
    refine jv_icmp_eq (tgt := 36) (jv_dk t_X9_isUnder (k := 9) rfl) rfl (fun c2 => ?_) (fun c2 => ?_)
    · refine jv_le_row (jv_le_n (jv_le_n (jv_le_n (jv_le_n (jv_le_n (jv_le_nil)))))) ?_
      exact hK5 _ 
    · show jv_O _ _ _ _ 17 _ _ _ _
      refine jv_iload_n (jv_dk t_X9_isUnder (k := 10) rfl) rfl rfl ?_
      refine jv_iload_n (jv_dk t_X9_isUnder (k := 11) rfl) rfl rfl ?_
      refine jv_icmp_ne (tgt := 24) (jv_dk t_X9_isUnder (k := 12) rfl) rfl (fun c3 => ?_) (fun c3 => ?_)
      · refine jv_aload_n (jv_dk t_X9_isUnder (k := 15) rfl) rfl rfl (Or.inr ⟨_, rfl⟩) ?_
        refine jv_iload_n (jv_dk t_X9_isUnder (k := 16) rfl) rfl rfl ?_
        refine jv_callV (en' := jeI) (pv := jpI) (As := [.int (x3)]) (S := []) (jv_dk t_X9_isUnder (k := 17) rfl) (fun _ => rfl) (Or.inl lk_X9_23) me_X9_around mv_X9_around ⟨by decide, by decide⟩ rfl rfl rfl (Nat.le_of_ble_eq_true rfl) (P_X9_around X x0 x3 h) (fun v4 h5 => ?_)
        show jv_O X M_X9_isUnder _ jeI 29 [some (.ref (x0)), none, some (.int (x2)), some (.int (x3)), some (.int (x4))] [.int (v4)] h5 _
        refine jv_istore_n (L' := [some (.ref (x0)), none, some (.int (x2)), some (.int (v4)), some (.int (x4))]) (jv_dk t_X9_isUnder (k := 18) rfl) rfl (Nat.le_of_ble_eq_true rfl) rfl ?_
        refine jv_iinc (v := 1) (L' := [some (.ref (x0)), none, some (.int (x2)), some (.int (v4)), some (.int (x4 + 1))]) (jv_dk t_X9_isUnder (k := 19) rfl) rfl (by decide) rfl ?_
        refine jv_goto (tgt := 5) (jv_dk t_X9_isUnder (k := 20) rfl) rfl ?_
        exact hR5 _ _ _ _ _ 
      · show jv_O _ _ _ _ 22 _ _ _ _
        refine jv_iconst (v := 1) (jv_dk t_X9_isUnder (k := 13) rfl) (by decide) ?_
        exact jv_iret (ty := .boolean) (jv_dk t_X9_isUnder (k := 14) rfl) rfl rfl rfl
def f_X9_isUnder (a0 : Nat) (a1 : Int32) (a2 : Int32) (h : jh) : Option (Int32 × jh) :=
  jlp4 (f_X9_isUnder_h5 (fun  h6 =>
  some (0, h6))) jfu a0 a2 a1 0 h
theorem P_X9_isUnder (X : jx) (a0 : Nat) (a1 : Int32) (a2 : Int32) (h : jh) : jv_P X M_X9_isUnder jeI [.ref (a0), .int (a1), .int (a2)] h (f_X9_isUnder a0 a1 a2 h) := by
  refine jv_P.of (by decide) rfl (by simp [Value.category]) (Nat.le_of_ble_eq_true rfl) ?_
  show jv_O X M_X9_isUnder (h.1, h.2.1) jeI 0 [some (.ref (a0)), some (.int (a1)), some (.int (a2)), none, none] [] h (f_X9_isUnder a0 a1 a2 h)
  unfold f_X9_isUnder
  refine jv_iload_n (jv_dk t_X9_isUnder (k := 0) rfl) rfl rfl ?_
  refine jv_istore_n (L' := [some (.ref (a0)), some (.int (a1)), some (.int (a2)), some (.int (a1)), none]) (jv_dk t_X9_isUnder (k := 1) rfl) rfl (Nat.le_of_ble_eq_true rfl) rfl ?_
  refine jv_iconst (v := 0) (jv_dk t_X9_isUnder (k := 2) rfl) (by decide) ?_
  refine jv_istore (L' := [some (.ref (a0)), some (.int (a1)), some (.int (a2)), some (.int (a1)), some (.int (0))]) (jv_dk t_X9_isUnder (k := 3) rfl) (Nat.le_of_ble_eq_true rfl) rfl ?_
  refine jv_le_row (jv_le_s (jv_le_n (jv_le_s (jv_le_s (jv_le_s (jv_le_nil)))))) ?_
  refine o_f_X9_isUnder_h5 (fun  h6 => ?_) _ _ _ _ _ 
  show jv_O X M_X9_isUnder _ jeI 36 [none, none, none, none, none] [] h6 _
  refine jv_iconst (v := 0) (jv_dk t_X9_isUnder (k := 21) rfl) (by decide) ?_
  exact jv_iret (ty := .boolean) (jv_dk t_X9_isUnder (k := 22) rfl) rfl rfl rfl
def t0_X9_has : List (Nat × Instr × Nat) := [(0, .iload_n 1, 1), (1, .ifCond .lt 21, 3), (4, .iload_n 1, 1), (5, .aload_n 0, 1), (6, .getfield 15, 3), (9, .if_icmp .ge 13, 3), (12, .iload_n 1, 1), (13, .bipush 8, 2), (15, .if_icmp .ge 7, 3), (18, .iconst 1, 1), (19, .goto 4, 3), (22, .iconst 0, 1), (23, .ireturn, 1)]
theorem t_X9_has : jv_dec cX9_has t0_X9_has = true := by decide +kernel
def M_X9_has : jm := (yX9_has, cX9_has, 2, (some .boolean), 0, 0, [])
def f_X9_has (a0 : Nat) (a1 : Int32) (h : jh) : Option (Int32 × jh) :=
  (if a1 < 0 then
  some (0, h)
  else
  gI h a0 7 1 fun v2 =>
  (if v2 ≤ a1 then
  some (0, h)
  else
  (if 8 ≤ a1 then
  some (0, h)
  else
  some (1, h))))
theorem P_X9_has (X : jx) (a0 : Nat) (a1 : Int32) (h : jh) : jv_P X M_X9_has jeI [.ref (a0), .int (a1)] h (f_X9_has a0 a1 h) := by
  refine jv_P.of (by decide) rfl (by simp [Value.category]) (Nat.le_of_ble_eq_true rfl) ?_
  show jv_O X M_X9_has (h.1, h.2.1) jeI 0 [some (.ref (a0)), some (.int (a1))] [] h (f_X9_has a0 a1 h)
  unfold f_X9_has
  refine jv_iload_n (jv_dk t_X9_has (k := 0) rfl) rfl rfl ?_
  refine jv_if_lt (tgt := 22) (jv_dk t_X9_has (k := 1) rfl) rfl (fun c1 => ?_) (fun c1 => ?_)
  · refine jv_iconst (v := 0) (jv_dk t_X9_has (k := 11) rfl) (by decide) ?_
    exact jv_iret (ty := .boolean) (jv_dk t_X9_has (k := 12) rfl) rfl rfl rfl
  · show jv_O _ _ _ _ 4 _ _ _ _
    refine jv_iload_n (jv_dk t_X9_has (k := 2) rfl) rfl rfl ?_
    refine jv_aload_n (jv_dk t_X9_has (k := 3) rfl) rfl rfl (Or.inr ⟨_, rfl⟩) ?_
    refine jv_gI (jv_dk t_X9_has (k := 4) rfl) fl_X9_15 (fun v2 => ?_)
    refine jv_icmp_ge (tgt := 22) (jv_dk t_X9_has (k := 5) rfl) rfl (fun c3 => ?_) (fun c3 => ?_)
    · refine jv_iconst (v := 0) (jv_dk t_X9_has (k := 11) rfl) (by decide) ?_
      exact jv_iret (ty := .boolean) (jv_dk t_X9_has (k := 12) rfl) rfl rfl rfl
    · show jv_O _ _ _ _ 12 _ _ _ _
      refine jv_iload_n (jv_dk t_X9_has (k := 6) rfl) rfl rfl ?_
      refine jv_bipush (v := 8) (jv_dk t_X9_has (k := 7) rfl) (by decide) ?_
      refine jv_icmp_ge (tgt := 22) (jv_dk t_X9_has (k := 8) rfl) rfl (fun c4 => ?_) (fun c4 => ?_)
      · refine jv_iconst (v := 0) (jv_dk t_X9_has (k := 11) rfl) (by decide) ?_
        exact jv_iret (ty := .boolean) (jv_dk t_X9_has (k := 12) rfl) rfl rfl rfl
      · show jv_O _ _ _ _ 18 _ _ _ _
        refine jv_iconst (v := 1) (jv_dk t_X9_has (k := 9) rfl) (by decide) ?_
        refine jv_goto (tgt := 23) (jv_dk t_X9_has (k := 10) rfl) rfl ?_
        exact jv_iret (ty := .boolean) (jv_dk t_X9_has (k := 12) rfl) rfl rfl rfl
def t0_X9_depth : List (Nat × Instr × Nat) := [(0, .iconst 0, 1), (1, .istore_n 2, 1), (2, .aload_n 0, 1), (3, .iload_n 1, 1), (4, .invokevirtual 23, 3), (7, .istore_n 3, 1), (8, .iconst 0, 1), (9, .istore 4, 2), (11, .iload 4, 2), (13, .bipush 8, 2), (15, .if_icmp .ge 23, 3), (18, .iload_n 3, 1), (19, .iconst (-1), 1), (20, .if_icmp .eq 18, 3), (23, .iinc 2 1, 3), (26, .aload_n 0, 1), (27, .iload_n 3, 1), (28, .invokevirtual 23, 3), (31, .istore_n 3, 1), (32, .iinc 4 1, 3), (35, .goto (-24), 3), (38, .iload_n 2, 1), (39, .ireturn, 1)]
theorem t_X9_depth : jv_dec cX9_depth t0_X9_depth = true := by decide +kernel
def M_X9_depth : jm := (yX9_depth, cX9_depth, 5, (some .int), 1, 21, [])
def f_X9_depth_h11 (K11 : Int32 → jh → Option (Int32 × jh)) (R11 : Nat → Int32 → Int32 → Int32 → jh → Option (Int32 × jh)) (x0 : Nat) (x2 : Int32) (x3 : Int32) (x4 : Int32) (h : jh) : Option (Int32 × jh) :=
  (if 8 ≤ x4 then
  K11 x2 h
  else
  (if x3 = (-1) then
  K11 x2 h
  else
  cV h x0 7 (f_X9_around x0 x3 h) fun v5 h6 =>
  R11 x0 (x2 + 1) v5 (x4 + 1) h6))
theorem o_f_X9_depth_h11 {X : jx} {b0 : Nat × Nat} {K11 : Int32 → jh → Option (Int32 × jh)} (hK11 : ∀ (x2 : Int32) (h : jh), jv_O X M_X9_depth b0 jeI 38 [none, none, some (.int (x2)), none, none] [] h (K11 x2 h)) : ∀ (x0 : Nat) (x2 : Int32) (x3 : Int32) (x4 : Int32) (h : jh), jv_O X M_X9_depth b0 jeI 11 [some (.ref (x0)), none, some (.int (x2)), some (.int (x3)), some (.int (x4))] [] h (jlp4 (f_X9_depth_h11 K11) jfu x0 x2 x3 x4 h) := by
  refine jlp4_ok (P := fun x0 x2 x3 x4 h o => jv_O X M_X9_depth b0 jeI 11 [some (.ref (x0)), none, some (.int (x2)), some (.int (x3)), some (.int (x4))] [] h o) (fun R11 hR11 => ?_) (fun _ _ _ _ _  => jv_none rfl) jfu
  intro x0 x2 x3 x4 h
  unfold f_X9_depth_h11
  refine jv_iload (jv_dk t_X9_depth (k := 8) rfl) rfl ?_
  refine jv_bipush (v := 8) (jv_dk t_X9_depth (k := 9) rfl) (by decide) ?_
  refine jv_icmp_ge (tgt := 38) (jv_dk t_X9_depth (k := 10) rfl) rfl (fun c3 => ?_) (fun c3 => ?_)
  · refine jv_le_row (jv_le_n (jv_le_n (jv_le_s (jv_le_n (jv_le_n (jv_le_nil)))))) ?_
    exact hK11 _ _ 
  · show jv_O _ _ _ _ 18 _ _ _ _
    refine jv_iload_n (jv_dk t_X9_depth (k := 11) rfl) rfl rfl ?_
    refine jv_iconst (v := (-1)) (jv_dk t_X9_depth (k := 12) rfl) (by decide) ?_
    refine jv_icmp_eq (tgt := 38) (jv_dk t_X9_depth (k := 13) rfl) rfl (fun c4 => ?_) (fun c4 => ?_)
    · refine jv_le_row (jv_le_n (jv_le_n (jv_le_s (jv_le_n (jv_le_n (jv_le_nil)))))) ?_
      exact hK11 _ _ 
    · show jv_O _ _ _ _ 23 _ _ _ _
      refine jv_iinc (v := 1) (L' := [some (.ref (x0)), none, some (.int (x2 + 1)), some (.int (x3)), some (.int (x4))]) (jv_dk t_X9_depth (k := 14) rfl) rfl (by decide) rfl ?_
      refine jv_aload_n (jv_dk t_X9_depth (k := 15) rfl) rfl rfl (Or.inr ⟨_, rfl⟩) ?_
      refine jv_iload_n (jv_dk t_X9_depth (k := 16) rfl) rfl rfl ?_
      refine jv_callV (en' := jeI) (pv := jpI) (As := [.int (x3)]) (S := []) (jv_dk t_X9_depth (k := 17) rfl) (fun _ => rfl) (Or.inl lk_X9_23) me_X9_around mv_X9_around ⟨by decide, by decide⟩ rfl rfl rfl (Nat.le_of_ble_eq_true rfl) (P_X9_around X x0 x3 h) (fun v5 h6 => ?_)
      show jv_O X M_X9_depth _ jeI 31 [some (.ref (x0)), none, some (.int (x2 + 1)), some (.int (x3)), some (.int (x4))] [.int (v5)] h6 _
      refine jv_istore_n (L' := [some (.ref (x0)), none, some (.int (x2 + 1)), some (.int (v5)), some (.int (x4))]) (jv_dk t_X9_depth (k := 18) rfl) rfl (Nat.le_of_ble_eq_true rfl) rfl ?_
      refine jv_iinc (v := 1) (L' := [some (.ref (x0)), none, some (.int (x2 + 1)), some (.int (v5)), some (.int (x4 + 1))]) (jv_dk t_X9_depth (k := 19) rfl) rfl (by decide) rfl ?_
      refine jv_goto (tgt := 11) (jv_dk t_X9_depth (k := 20) rfl) rfl ?_
      exact hR11 _ _ _ _ _ 
def f_X9_depth (a0 : Nat) (a1 : Int32) (h : jh) : Option (Int32 × jh) :=
  cV h a0 7 (f_X9_around a0 a1 h) fun v1 h2 =>
  jlp4 (f_X9_depth_h11 (fun y8 h7 =>
  some (y8, h7))) jfu a0 0 v1 0 h2
theorem P_X9_depth (X : jx) (a0 : Nat) (a1 : Int32) (h : jh) : jv_P X M_X9_depth jeI [.ref (a0), .int (a1)] h (f_X9_depth a0 a1 h) := by
  refine jv_P.of (by decide) rfl (by simp [Value.category]) (Nat.le_of_ble_eq_true rfl) ?_
  show jv_O X M_X9_depth (h.1, h.2.1) jeI 0 [some (.ref (a0)), some (.int (a1)), none, none, none] [] h (f_X9_depth a0 a1 h)
  unfold f_X9_depth
  refine jv_iconst (v := 0) (jv_dk t_X9_depth (k := 0) rfl) (by decide) ?_
  refine jv_istore_n (L' := [some (.ref (a0)), some (.int (a1)), some (.int (0)), none, none]) (jv_dk t_X9_depth (k := 1) rfl) rfl (Nat.le_of_ble_eq_true rfl) rfl ?_
  refine jv_aload_n (jv_dk t_X9_depth (k := 2) rfl) rfl rfl (Or.inr ⟨_, rfl⟩) ?_
  refine jv_iload_n (jv_dk t_X9_depth (k := 3) rfl) rfl rfl ?_
  refine jv_callV (en' := jeI) (pv := jpI) (As := [.int (a1)]) (S := []) (jv_dk t_X9_depth (k := 4) rfl) (fun _ => rfl) (Or.inl lk_X9_23) me_X9_around mv_X9_around ⟨by decide, by decide⟩ rfl rfl rfl (Nat.le_of_ble_eq_true rfl) (P_X9_around X a0 a1 h) (fun v1 h2 => ?_)
  show jv_O X M_X9_depth _ jeI 7 [some (.ref (a0)), some (.int (a1)), some (.int (0)), none, none] [.int (v1)] h2 _
  refine jv_istore_n (L' := [some (.ref (a0)), some (.int (a1)), some (.int (0)), some (.int (v1)), none]) (jv_dk t_X9_depth (k := 5) rfl) rfl (Nat.le_of_ble_eq_true rfl) rfl ?_
  refine jv_iconst (v := 0) (jv_dk t_X9_depth (k := 6) rfl) (by decide) ?_
  refine jv_istore (L' := [some (.ref (a0)), some (.int (a1)), some (.int (0)), some (.int (v1)), some (.int (0))]) (jv_dk t_X9_depth (k := 7) rfl) (Nat.le_of_ble_eq_true rfl) rfl ?_
  refine jv_le_row (jv_le_s (jv_le_n (jv_le_s (jv_le_s (jv_le_s (jv_le_nil)))))) ?_
  refine o_f_X9_depth_h11 (fun y8 h7 => ?_) _ _ _ _ _ 
  show jv_O X M_X9_depth _ jeI 38 [none, none, some (.int (y8)), none, none] [] h7 _
  refine jv_iload_n (jv_dk t_X9_depth (k := 21) rfl) rfl rfl ?_
  exact jv_iret (ty := .int) (jv_dk t_X9_depth (k := 22) rfl) rfl rfl rfl
def t0_X9_ancestor : List (Nat × Instr × Nat) := [(0, .iload_n 1, 1), (1, .istore_n 3, 1), (2, .iconst 0, 1), (3, .istore 4, 2), (5, .iload 4, 2), (7, .iload_n 2, 1), (8, .if_icmp .ge 22, 3), (11, .iload 4, 2), (13, .bipush 8, 2), (15, .if_icmp .ge 15, 3), (18, .aload_n 0, 1), (19, .iload_n 3, 1), (20, .invokevirtual 23, 3), (23, .istore_n 3, 1), (24, .iinc 4 1, 3), (27, .goto (-22), 3), (30, .iload_n 3, 1), (31, .ireturn, 1)]
theorem t_X9_ancestor : jv_dec cX9_ancestor t0_X9_ancestor = true := by decide +kernel
def M_X9_ancestor : jm := (yX9_ancestor, cX9_ancestor, 5, (some .int), 1, 21, [])
def f_X9_ancestor_h5 (K5 : Int32 → jh → Option (Int32 × jh)) (R5 : Nat → Int32 → Int32 → Int32 → jh → Option (Int32 × jh)) (x0 : Nat) (x2 : Int32) (x3 : Int32) (x4 : Int32) (h : jh) : Option (Int32 × jh) :=
  (if x2 ≤ x4 then
  K5 x3 h
  else
  (if 8 ≤ x4 then
  K5 x3 h
  else
  cV h x0 7 (f_X9_around x0 x3 h) fun v3 h4 =>
  R5 x0 x2 v3 (x4 + 1) h4))
theorem o_f_X9_ancestor_h5 {X : jx} {b0 : Nat × Nat} {K5 : Int32 → jh → Option (Int32 × jh)} (hK5 : ∀ (x3 : Int32) (h : jh), jv_O X M_X9_ancestor b0 jeI 30 [none, none, none, some (.int (x3)), none] [] h (K5 x3 h)) : ∀ (x0 : Nat) (x2 : Int32) (x3 : Int32) (x4 : Int32) (h : jh), jv_O X M_X9_ancestor b0 jeI 5 [some (.ref (x0)), none, some (.int (x2)), some (.int (x3)), some (.int (x4))] [] h (jlp4 (f_X9_ancestor_h5 K5) jfu x0 x2 x3 x4 h) := by
  refine jlp4_ok (P := fun x0 x2 x3 x4 h o => jv_O X M_X9_ancestor b0 jeI 5 [some (.ref (x0)), none, some (.int (x2)), some (.int (x3)), some (.int (x4))] [] h o) (fun R5 hR5 => ?_) (fun _ _ _ _ _  => jv_none rfl) jfu
  intro x0 x2 x3 x4 h
  unfold f_X9_ancestor_h5
  refine jv_iload (jv_dk t_X9_ancestor (k := 4) rfl) rfl ?_
  refine jv_iload_n (jv_dk t_X9_ancestor (k := 5) rfl) rfl rfl ?_
  refine jv_icmp_ge (tgt := 30) (jv_dk t_X9_ancestor (k := 6) rfl) rfl (fun c1 => ?_) (fun c1 => ?_)
  · refine jv_le_row (jv_le_n (jv_le_n (jv_le_n (jv_le_s (jv_le_n (jv_le_nil)))))) ?_
    exact hK5 _ _ 
  · show jv_O _ _ _ _ 11 _ _ _ _
    refine jv_iload (jv_dk t_X9_ancestor (k := 7) rfl) rfl ?_
    refine jv_bipush (v := 8) (jv_dk t_X9_ancestor (k := 8) rfl) (by decide) ?_
    refine jv_icmp_ge (tgt := 30) (jv_dk t_X9_ancestor (k := 9) rfl) rfl (fun c2 => ?_) (fun c2 => ?_)
    · refine jv_le_row (jv_le_n (jv_le_n (jv_le_n (jv_le_s (jv_le_n (jv_le_nil)))))) ?_
      exact hK5 _ _ 
    · show jv_O _ _ _ _ 18 _ _ _ _
      refine jv_aload_n (jv_dk t_X9_ancestor (k := 10) rfl) rfl rfl (Or.inr ⟨_, rfl⟩) ?_
      refine jv_iload_n (jv_dk t_X9_ancestor (k := 11) rfl) rfl rfl ?_
      refine jv_callV (en' := jeI) (pv := jpI) (As := [.int (x3)]) (S := []) (jv_dk t_X9_ancestor (k := 12) rfl) (fun _ => rfl) (Or.inl lk_X9_23) me_X9_around mv_X9_around ⟨by decide, by decide⟩ rfl rfl rfl (Nat.le_of_ble_eq_true rfl) (P_X9_around X x0 x3 h) (fun v3 h4 => ?_)
      show jv_O X M_X9_ancestor _ jeI 23 [some (.ref (x0)), none, some (.int (x2)), some (.int (x3)), some (.int (x4))] [.int (v3)] h4 _
      refine jv_istore_n (L' := [some (.ref (x0)), none, some (.int (x2)), some (.int (v3)), some (.int (x4))]) (jv_dk t_X9_ancestor (k := 13) rfl) rfl (Nat.le_of_ble_eq_true rfl) rfl ?_
      refine jv_iinc (v := 1) (L' := [some (.ref (x0)), none, some (.int (x2)), some (.int (v3)), some (.int (x4 + 1))]) (jv_dk t_X9_ancestor (k := 14) rfl) rfl (by decide) rfl ?_
      refine jv_goto (tgt := 5) (jv_dk t_X9_ancestor (k := 15) rfl) rfl ?_
      exact hR5 _ _ _ _ _ 
def f_X9_ancestor (a0 : Nat) (a1 : Int32) (a2 : Int32) (h : jh) : Option (Int32 × jh) :=
  jlp4 (f_X9_ancestor_h5 (fun y6 h5 =>
  some (y6, h5))) jfu a0 a2 a1 0 h
theorem P_X9_ancestor (X : jx) (a0 : Nat) (a1 : Int32) (a2 : Int32) (h : jh) : jv_P X M_X9_ancestor jeI [.ref (a0), .int (a1), .int (a2)] h (f_X9_ancestor a0 a1 a2 h) := by
  refine jv_P.of (by decide) rfl (by simp [Value.category]) (Nat.le_of_ble_eq_true rfl) ?_
  show jv_O X M_X9_ancestor (h.1, h.2.1) jeI 0 [some (.ref (a0)), some (.int (a1)), some (.int (a2)), none, none] [] h (f_X9_ancestor a0 a1 a2 h)
  unfold f_X9_ancestor
  refine jv_iload_n (jv_dk t_X9_ancestor (k := 0) rfl) rfl rfl ?_
  refine jv_istore_n (L' := [some (.ref (a0)), some (.int (a1)), some (.int (a2)), some (.int (a1)), none]) (jv_dk t_X9_ancestor (k := 1) rfl) rfl (Nat.le_of_ble_eq_true rfl) rfl ?_
  refine jv_iconst (v := 0) (jv_dk t_X9_ancestor (k := 2) rfl) (by decide) ?_
  refine jv_istore (L' := [some (.ref (a0)), some (.int (a1)), some (.int (a2)), some (.int (a1)), some (.int (0))]) (jv_dk t_X9_ancestor (k := 3) rfl) (Nat.le_of_ble_eq_true rfl) rfl ?_
  refine jv_le_row (jv_le_s (jv_le_n (jv_le_s (jv_le_s (jv_le_s (jv_le_nil)))))) ?_
  refine o_f_X9_ancestor_h5 (fun y6 h5 => ?_) _ _ _ _ _ 
  show jv_O X M_X9_ancestor _ jeI 30 [none, none, none, some (.int (y6)), none] [] h5 _
  refine jv_iload_n (jv_dk t_X9_ancestor (k := 16) rfl) rfl rfl ?_
  exact jv_iret (ty := .int) (jv_dk t_X9_ancestor (k := 17) rfl) rfl rfl rfl
