def t0_X6_isWord : List (Nat × Instr × Nat) := [(0, .aload_n 0, 1), (1, .getfield 25, 3), (4, .iconst 1, 1), (5, .if_icmp .ne 19, 3), (8, .aload_n 0, 1), (9, .getfield 31, 3), (12, .aload_n 0, 1), (13, .getfield 28, 3), (16, .isub, 1), (17, .aload_n 1, 1), (18, .invokevirtual 66, 3), (21, .if_icmp .eq 5, 3), (24, .iconst 0, 1), (25, .ireturn, 1), (26, .iconst 0, 1), (27, .istore_n 2, 1), (28, .iload_n 2, 1), (29, .aload_n 1, 1), (30, .invokevirtual 66, 3), (33, .if_icmp .ge 30, 3), (36, .aload_n 0, 1), (37, .getfield 9, 3), (40, .aload_n 0, 1), (41, .getfield 28, 3), (44, .iload_n 2, 1), (45, .iadd, 1), (46, .iaload, 1), (47, .aload_n 1, 1), (48, .iload_n 2, 1), (49, .invokevirtual 71, 3), (52, .if_icmp .eq 5, 3), (55, .iconst 0, 1), (56, .ireturn, 1), (57, .iinc 2 1, 3), (60, .goto (-32), 3), (63, .iconst 1, 1), (64, .ireturn, 1)]
theorem t_X6_isWord : jv_dec cX6_isWord t0_X6_isWord = true := by decide +kernel
def M_X6_isWord : jm := (yX6_isWord, cX6_isWord, 3, (some .boolean), 5, 181, [])
theorem lk_X6_66 : jv_lk RX6 66 M_J0_length_8abf5 := Or.inl (jv_at 1031 (by decide +kernel))
theorem lk_X6_71 : jv_lk RX6 71 M_J0_charAt_5068e := Or.inl (jv_at 1041 (by decide +kernel))
def f_X6_isWord_h28 (K28 : jh → Option (Int32 × jh)) (R28 : Nat → Nat → Int32 → jh → Option (Int32 × jh)) (x0 : Nat) (x1 : Nat) (x2 : Int32) (h : jh) : Option (Int32 × jh) :=
  tL x1 fun v7 =>
  (if v7 ≤ x2 then
  K28  h
  else
  gR h x0 4 0 fun v9 =>
  gI h x0 4 5 fun v10 =>
  aI h v9 (v10 + x2) fun v11 =>
  tC x1 x2 fun v12 =>
  (if v11 = v12 then
  R28 x0 x1 (x2 + 1) h
  else
  some (0, h)))
theorem o_f_X6_isWord_h28 {X : jx} {b0 : Nat × Nat} {K28 : jh → Option (Int32 × jh)} (hK28 : ∀  (h : jh), jv_O X M_X6_isWord b0 jeI 63 [none, none, none] [] h (K28  h)) : ∀ (x0 : Nat) (x1 : Nat) (x2 : Int32) (h : jh), jv_O X M_X6_isWord b0 jeI 28 [some (.ref (x0)), some (.ref (jv_ad X (20 + x1))), some (.int (x2))] [] h (jlp3 (f_X6_isWord_h28 K28) jfu x0 x1 x2 h) := by
  refine jlp3_ok (P := fun x0 x1 x2 h o => jv_O X M_X6_isWord b0 jeI 28 [some (.ref (x0)), some (.ref (jv_ad X (20 + x1))), some (.int (x2))] [] h o) (fun R28 hR28 => ?_) (fun _ _ _ _  => jv_none rfl) jfu
  intro x0 x1 x2 h
  unfold f_X6_isWord_h28
  refine jv_iload_n (jv_dk t_X6_isWord (k := 16) rfl) rfl rfl ?_
  refine jv_aload_n (jv_dk t_X6_isWord (k := 17) rfl) rfl rfl (Or.inr ⟨_, rfl⟩) ?_
  refine jv_tL (jv_dk t_X6_isWord (k := 18) rfl) lk_X6_66 ⟨by decide, by decide⟩ (Nat.le_of_ble_eq_true rfl) (fun v7 => ?_)
  refine jv_icmp_ge (tgt := 63) (jv_dk t_X6_isWord (k := 19) rfl) rfl (fun c8 => ?_) (fun c8 => ?_)
  · refine jv_le_row (jv_le_n (jv_le_n (jv_le_n (jv_le_nil)))) ?_
    exact hK28 _ 
  · show jv_O _ _ _ _ 36 _ _ _ _
    refine jv_aload_n (jv_dk t_X6_isWord (k := 20) rfl) rfl rfl (Or.inr ⟨_, rfl⟩) ?_
    refine jv_gR (jv_dk t_X6_isWord (k := 21) rfl) fl_X6_9 (fun v9 => ?_)
    refine jv_aload_n (jv_dk t_X6_isWord (k := 22) rfl) rfl rfl (Or.inr ⟨_, rfl⟩) ?_
    refine jv_gI (jv_dk t_X6_isWord (k := 23) rfl) fl_X6_28 (fun v10 => ?_)
    refine jv_iload_n (jv_dk t_X6_isWord (k := 24) rfl) rfl rfl ?_
    refine jv_iadd (jv_dk t_X6_isWord (k := 25) rfl) ?_
    refine jv_iaload (jv_dk t_X6_isWord (k := 26) rfl) (fun v11 => ?_)
    refine jv_aload_n (jv_dk t_X6_isWord (k := 27) rfl) rfl rfl (Or.inr ⟨_, rfl⟩) ?_
    refine jv_iload_n (jv_dk t_X6_isWord (k := 28) rfl) rfl rfl ?_
    refine jv_tC (jv_dk t_X6_isWord (k := 29) rfl) lk_X6_71 ⟨by decide, by decide⟩ (Nat.le_of_ble_eq_true rfl) (fun v12 => ?_)
    refine jv_icmp_eq (tgt := 57) (jv_dk t_X6_isWord (k := 30) rfl) rfl (fun c13 => ?_) (fun c13 => ?_)
    · refine jv_iinc (v := 1) (L' := [some (.ref (x0)), some (.ref (jv_ad X (20 + x1))), some (.int (x2 + 1))]) (jv_dk t_X6_isWord (k := 33) rfl) rfl (by decide) rfl ?_
      refine jv_goto (tgt := 28) (jv_dk t_X6_isWord (k := 34) rfl) rfl ?_
      exact hR28 _ _ _ _ 
    · show jv_O _ _ _ _ 55 _ _ _ _
      refine jv_iconst (v := 0) (jv_dk t_X6_isWord (k := 31) rfl) (by decide) ?_
      exact jv_iret (ty := .boolean) (jv_dk t_X6_isWord (k := 32) rfl) rfl rfl rfl
def f_X6_isWord (a0 : Nat) (a1 : Nat) (h : jh) : Option (Int32 × jh) :=
  gI h a0 4 4 fun v1 =>
  (if ¬ v1 = 1 then
  some (0, h)
  else
  gI h a0 4 6 fun v3 =>
  gI h a0 4 5 fun v4 =>
  tL a1 fun v5 =>
  (if (v3 - v4) = v5 then
  jlp3 (f_X6_isWord_h28 (fun  h14 =>
  some (1, h14))) jfu a0 a1 0 h
  else
  some (0, h)))
theorem P_X6_isWord (X : jx) (a0 : Nat) (a1 : Nat) (h : jh) : jv_P X M_X6_isWord jeI [.ref (a0), .ref (jv_ad X (20 + a1))] h (f_X6_isWord a0 a1 h) := by
  refine jv_P.of (by decide) rfl (by simp [Value.category]) (Nat.le_of_ble_eq_true rfl) ?_
  show jv_O X M_X6_isWord (h.1, h.2.1) jeI 0 [some (.ref (a0)), some (.ref (jv_ad X (20 + a1))), none] [] h (f_X6_isWord a0 a1 h)
  unfold f_X6_isWord
  refine jv_aload_n (jv_dk t_X6_isWord (k := 0) rfl) rfl rfl (Or.inr ⟨_, rfl⟩) ?_
  refine jv_gI (jv_dk t_X6_isWord (k := 1) rfl) fl_X6_25 (fun v1 => ?_)
  refine jv_iconst (v := 1) (jv_dk t_X6_isWord (k := 2) rfl) (by decide) ?_
  refine jv_icmp_ne (tgt := 24) (jv_dk t_X6_isWord (k := 3) rfl) rfl (fun c2 => ?_) (fun c2 => ?_)
  · refine jv_iconst (v := 0) (jv_dk t_X6_isWord (k := 12) rfl) (by decide) ?_
    exact jv_iret (ty := .boolean) (jv_dk t_X6_isWord (k := 13) rfl) rfl rfl rfl
  · show jv_O _ _ _ _ 8 _ _ _ _
    refine jv_aload_n (jv_dk t_X6_isWord (k := 4) rfl) rfl rfl (Or.inr ⟨_, rfl⟩) ?_
    refine jv_gI (jv_dk t_X6_isWord (k := 5) rfl) fl_X6_31 (fun v3 => ?_)
    refine jv_aload_n (jv_dk t_X6_isWord (k := 6) rfl) rfl rfl (Or.inr ⟨_, rfl⟩) ?_
    refine jv_gI (jv_dk t_X6_isWord (k := 7) rfl) fl_X6_28 (fun v4 => ?_)
    refine jv_isub (jv_dk t_X6_isWord (k := 8) rfl) ?_
    refine jv_aload_n (jv_dk t_X6_isWord (k := 9) rfl) rfl rfl (Or.inr ⟨_, rfl⟩) ?_
    refine jv_tL (jv_dk t_X6_isWord (k := 10) rfl) lk_X6_66 ⟨by decide, by decide⟩ (Nat.le_of_ble_eq_true rfl) (fun v5 => ?_)
    refine jv_icmp_eq (tgt := 26) (jv_dk t_X6_isWord (k := 11) rfl) rfl (fun c6 => ?_) (fun c6 => ?_)
    · refine jv_iconst (v := 0) (jv_dk t_X6_isWord (k := 14) rfl) (by decide) ?_
      refine jv_istore_n (L' := [some (.ref (a0)), some (.ref (jv_ad X (20 + a1))), some (.int (0))]) (jv_dk t_X6_isWord (k := 15) rfl) rfl (Nat.le_of_ble_eq_true rfl) rfl ?_
      refine o_f_X6_isWord_h28 (fun  h14 => ?_) _ _ _ _ 
      show jv_O X M_X6_isWord _ jeI 63 [none, none, none] [] h14 _
      refine jv_iconst (v := 1) (jv_dk t_X6_isWord (k := 35) rfl) (by decide) ?_
      exact jv_iret (ty := .boolean) (jv_dk t_X6_isWord (k := 36) rfl) rfl rfl rfl
    · show jv_O _ _ _ _ 24 _ _ _ _
      refine jv_iconst (v := 0) (jv_dk t_X6_isWord (k := 12) rfl) (by decide) ?_
      exact jv_iret (ty := .boolean) (jv_dk t_X6_isWord (k := 13) rfl) rfl rfl rfl
def t0_X6_actNamed : List (Nat × Instr × Nat) := [(0, .iconst 0, 1), (1, .istore_n 1, 1), (2, .iload_n 1, 1), (3, .getstatic 100, 3), (6, .arraylength, 1), (7, .if_icmp .ge 30, 3), (10, .aload_n 0, 1), (11, .getstatic 100, 3), (14, .iload_n 1, 1), (15, .aaload, 1), (16, .getfield 104, 3), (19, .invokevirtual 107, 3), (22, .ifCond .eq 9, 3), (25, .getstatic 100, 3), (28, .iload_n 1, 1), (29, .aaload, 1), (30, .areturn, 1), (31, .iinc 1 1, 3), (34, .goto (-32), 3), (37, .aconst_null, 1), (38, .areturn, 1)]
theorem t_X6_actNamed : jv_dec cX6_actNamed t0_X6_actNamed = true := by decide +kernel
def M_X6_actNamed : jm := (yX6_actNamed, cX6_actNamed, 2, (some (.object "SpaceWarden$Act")), 6, 203, [])
theorem sl_X6_100 : jv_fl RX6 100 "SpaceWarden$Act" "ALL" "[LSpaceWarden$Act;" := Or.inr ⟨"SpaceWarden", (jv_at 1025 (by decide +kernel))⟩
theorem sl_X6_104 : jv_fl RX6 104 "SpaceWarden$Act" "word" "Ljava/lang/String;" := Or.inr ⟨"SpaceWarden", (jv_at 1931 (by decide +kernel))⟩
theorem lk_X6_107 : Cond.methodLink RX6 107 M_X6_isWord.1 ∈ lw_tbl := (jv_at 1027 (by decide +kernel))
set_option maxRecDepth 20000 in
theorem me_X6_isWord : jv_me M_X6_isWord 1 := ⟨(jv_in4 (List.mem_of_getElem? (i := 150) rfl)), (jv_at 171 (by decide +kernel)), ⟨by decide, by decide⟩, by decide +kernel⟩
theorem mv_X6_isWord : jv_mv M_X6_isWord := ⟨(jv_at 1029 (by decide +kernel)), (jv_at 72 (by decide +kernel))⟩
def f_X6_actNamed_h2 (K2 : jh → Option (Option Nat × jh)) (R2 : Nat → Int32 → jh → Option (Option Nat × jh)) (x0 : Nat) (x1 : Int32) (h : jh) : Option (Option Nat × jh) :=
  (if (Int32.ofNat 11) ≤ x1 then
  K2  h
  else
  eA x1 fun v2 =>
  eW v2 fun v3 =>
  cV h x0 4 (f_X6_isWord x0 v3 h) fun v4 h5 =>
  (if v4 = 0 then
  R2 x0 (x1 + 1) h5
  else
  eA x1 fun v7 =>
  some ((some v7), h5)))
theorem o_f_X6_actNamed_h2 {X : jx} {b0 : Nat × Nat} {K2 : jh → Option (Option Nat × jh)} (hK2 : ∀  (h : jh), jv_O X M_X6_actNamed b0 (jeE X) 37 [none, none] [] h (K2  h)) : ∀ (x0 : Nat) (x1 : Int32) (h : jh), jv_O X M_X6_actNamed b0 (jeE X) 2 [some (.ref (x0)), some (.int (x1))] [] h (jlp2 (f_X6_actNamed_h2 K2) jfu x0 x1 h) := by
  refine jlp2_ok (P := fun x0 x1 h o => jv_O X M_X6_actNamed b0 (jeE X) 2 [some (.ref (x0)), some (.int (x1))] [] h o) (fun R2 hR2 => ?_) (fun _ _ _  => jv_none rfl) jfu
  intro x0 x1 h
  unfold f_X6_actNamed_h2
  refine jv_iload_n (jv_dk t_X6_actNamed (k := 2) rfl) rfl rfl ?_
  refine jv_gs (jv_dk t_X6_actNamed (k := 3) rfl) sl_X6_100 (fun U hK => hK.2.2.2.2.2.2.1.1) ?_
  refine jv_olen (N := 11) (f := fun j => .ref (jv_ad X j)) (jv_dk t_X6_actNamed (k := 4) rfl) (fun U hK => hK.2.2.2.2.2.2.1.2) ?_
  refine jv_icmp_ge (tgt := 37) (jv_dk t_X6_actNamed (k := 5) rfl) rfl (fun c1 => ?_) (fun c1 => ?_)
  · refine jv_le_row (jv_le_n (jv_le_n (jv_le_nil))) ?_
    exact hK2 _ 
  · show jv_O _ _ _ _ 10 _ _ _ _
    refine jv_aload_n (jv_dk t_X6_actNamed (k := 6) rfl) rfl rfl (Or.inr ⟨_, rfl⟩) ?_
    refine jv_gs (jv_dk t_X6_actNamed (k := 7) rfl) sl_X6_100 (fun U hK => hK.2.2.2.2.2.2.1.1) ?_
    refine jv_iload_n (jv_dk t_X6_actNamed (k := 8) rfl) rfl rfl ?_
    refine jv_eA (jv_dk t_X6_actNamed (k := 9) rfl) (fun v2 => ?_)
    refine jv_eW (jv_dk t_X6_actNamed (k := 10) rfl) sl_X6_104 (fun v3 => ?_)
    refine jv_callV (en' := jeI) (pv := jpI) (As := [.ref (jv_ad X (20 + v3))]) (S := []) (jv_dk t_X6_actNamed (k := 11) rfl) (fun _ => rfl) (Or.inl lk_X6_107) me_X6_isWord mv_X6_isWord ⟨by decide, by decide⟩ rfl rfl rfl (Nat.le_of_ble_eq_true rfl) (P_X6_isWord X x0 v3 h) (fun v4 h5 => ?_)
    show jv_O X M_X6_actNamed _ (jeE X) 22 [some (.ref (x0)), some (.int (x1))] [.int (v4)] h5 _
    refine jv_if_eq (tgt := 31) (jv_dk t_X6_actNamed (k := 12) rfl) rfl (fun c6 => ?_) (fun c6 => ?_)
    · refine jv_iinc (v := 1) (L' := [some (.ref (x0)), some (.int (x1 + 1))]) (jv_dk t_X6_actNamed (k := 17) rfl) rfl (by decide) rfl ?_
      refine jv_goto (tgt := 2) (jv_dk t_X6_actNamed (k := 18) rfl) rfl ?_
      exact hR2 _ _ _ 
    · show jv_O _ _ _ _ 25 _ _ _ _
      refine jv_gs (jv_dk t_X6_actNamed (k := 13) rfl) sl_X6_100 (fun U hK => hK.2.2.2.2.2.2.1.1) ?_
      refine jv_iload_n (jv_dk t_X6_actNamed (k := 14) rfl) rfl rfl ?_
      refine jv_eA (jv_dk t_X6_actNamed (k := 15) rfl) (fun v7 => ?_)
      exact jv_aret (n := "SpaceWarden$Act") (jv_dk t_X6_actNamed (k := 16) rfl) rfl (Or.inr ⟨_, rfl⟩) rfl
def f_X6_actNamed (a0 : Nat) (h : jh) : Option (Option Nat × jh) :=
  jlp2 (f_X6_actNamed_h2 (fun  h8 =>
  some (none, h8))) jfu a0 0 h
theorem P_X6_actNamed (X : jx) (a0 : Nat) (h : jh) : jv_P X M_X6_actNamed (jeE X) [.ref (a0)] h (f_X6_actNamed a0 h) := by
  refine jv_P.of (by decide) rfl (by simp [Value.category]) (Nat.le_of_ble_eq_true rfl) ?_
  show jv_O X M_X6_actNamed (h.1, h.2.1) (jeE X) 0 [some (.ref (a0)), none] [] h (f_X6_actNamed a0 h)
  unfold f_X6_actNamed
  refine jv_iconst (v := 0) (jv_dk t_X6_actNamed (k := 0) rfl) (by decide) ?_
  refine jv_istore_n (L' := [some (.ref (a0)), some (.int (0))]) (jv_dk t_X6_actNamed (k := 1) rfl) rfl (Nat.le_of_ble_eq_true rfl) rfl ?_
  refine o_f_X6_actNamed_h2 (fun  h8 => ?_) _ _ _ 
  show jv_O X M_X6_actNamed _ (jeE X) 37 [none, none] [] h8 _
  refine jv_null (jv_dk t_X6_actNamed (k := 19) rfl) ?_
  exact jv_aret (n := "SpaceWarden$Act") (jv_dk t_X6_actNamed (k := 20) rfl) rfl (Or.inl rfl) rfl
def t0_X6_readKind : List (Nat × Instr × Nat) := [(0, .aload_n 0, 1), (1, .invokevirtual 46, 3), (4, .astore_n 2, 1), (5, .aload_n 2, 1), (6, .getstatic 83, 3), (9, .if_acmp .eq 19, 3), (12, .aload_n 2, 1), (13, .getstatic 87, 3), (16, .if_acmp .eq 12, 3), (19, .aload_n 2, 1), (20, .getstatic 90, 3), (23, .if_acmp .eq 5, 3), (26, .iconst 1, 1), (27, .ireturn, 1), (28, .aload_n 0, 1), (29, .getfield 15, 3), (32, .iload_n 1, 1), (33, .aload_n 2, 1), (34, .getstatic 83, 3), (37, .if_acmp .ne 7, 3), (40, .iconst 1, 1), (41, .goto 15, 3), (44, .aload_n 2, 1), (45, .getstatic 87, 3), (48, .if_acmp .ne 7, 3), (51, .iconst 0, 1), (52, .goto 4, 3), (55, .iconst 2, 1), (56, .iastore, 1), (57, .iconst 0, 1), (58, .ireturn, 1)]
theorem t_X6_readKind : jv_dec cX6_readKind t0_X6_readKind = true := by decide +kernel
def M_X6_readKind : jm := (yX6_readKind, cX6_readKind, 3, (some .int), 7, 224, [])
theorem lk_X6_46 : Cond.methodLink RX6 46 M_X6_actNamed.1 ∈ lw_tbl := (jv_at 1021 (by decide +kernel))
set_option maxRecDepth 20000 in
theorem me_X6_actNamed : jv_me M_X6_actNamed 0 := ⟨(jv_in4 (List.mem_of_getElem? (i := 144) rfl)), (jv_at 171 (by decide +kernel)), ⟨by decide, by decide⟩, by decide +kernel⟩
theorem sl_X6_83 : jv_fl RX6 83 "SpaceWarden$Act" "USER" "LSpaceWarden$Act;" := Or.inl (jv_at 1087 (by decide +kernel))
theorem sl_X6_87 : jv_fl RX6 87 "SpaceWarden$Act" "NUMBERS" "LSpaceWarden$Act;" := Or.inl (jv_at 1088 (by decide +kernel))
theorem sl_X6_90 : jv_fl RX6 90 "SpaceWarden$Act" "MOUNTS" "LSpaceWarden$Act;" := Or.inl (jv_at 1089 (by decide +kernel))
theorem mv_X6_actNamed : jv_mv M_X6_actNamed := ⟨(jv_at 1023 (by decide +kernel)), (jv_at 71 (by decide +kernel))⟩
def f_X6_readKind_b28 (x0 : Nat) (x1 : Int32) (x2 : Option Nat) (h : jh) : Option (Int32 × jh) :=
  gR h x0 4 1 fun v3 =>
  acm x2 1 (sI h v3 x1 1 fun h6 =>
  some (0, h6)) (acm x2 2 (sI h v3 x1 0 fun h5 =>
  some (0, h5)) (sI h v3 x1 2 fun h4 =>
  some (0, h4)))
theorem o_f_X6_readKind_b28 {X : jx} {b0 : Nat × Nat} (x0 : Nat) (x1 : Int32) (x2 : Option Nat) (h : jh) : jv_O X M_X6_readKind b0 jeI 28 [some (.ref (x0)), some (.int (x1)), some (va_rf (Option.map (jv_ad X) (x2)))] [] h (f_X6_readKind_b28 x0 x1 x2 h) := by
  unfold f_X6_readKind_b28
  refine jv_aload_n (jv_dk t_X6_readKind (k := 14) rfl) rfl rfl (Or.inr ⟨_, rfl⟩) ?_
  refine jv_gR (jv_dk t_X6_readKind (k := 15) rfl) fl_X6_15 (fun v3 => ?_)
  refine jv_iload_n (jv_dk t_X6_readKind (k := 16) rfl) rfl rfl ?_
  refine jv_aload_n (jv_dk t_X6_readKind (k := 17) rfl) rfl rfl (va_rf_or _) ?_
  refine jv_gs (jv_dk t_X6_readKind (k := 18) rfl) sl_X6_83 (fun U hK => (hK.2.2.2.1 1 (by decide)).1) ?_
  refine jv_acm_ne (t := x2) (k := 1) (tgt := 44) (jv_dk t_X6_readKind (k := 19) rfl) rfl (by decide) ?_ ?_
  · refine jv_aload_n (jv_dk t_X6_readKind (k := 22) rfl) rfl rfl (va_rf_or _) ?_
    refine jv_gs (jv_dk t_X6_readKind (k := 23) rfl) sl_X6_87 (fun U hK => (hK.2.2.2.1 2 (by decide)).1) ?_
    refine jv_acm_ne (t := x2) (k := 2) (tgt := 55) (jv_dk t_X6_readKind (k := 24) rfl) rfl (by decide) ?_ ?_
    · refine jv_iconst (v := 2) (jv_dk t_X6_readKind (k := 27) rfl) (by decide) ?_
      refine jv_iastore (jv_dk t_X6_readKind (k := 28) rfl) (fun h4 => ?_)
      refine jv_iconst (v := 0) (jv_dk t_X6_readKind (k := 29) rfl) (by decide) ?_
      exact jv_iret (ty := .int) (jv_dk t_X6_readKind (k := 30) rfl) rfl rfl rfl
    · refine jv_iconst (v := 0) (jv_dk t_X6_readKind (k := 25) rfl) (by decide) ?_
      refine jv_goto (tgt := 56) (jv_dk t_X6_readKind (k := 26) rfl) rfl ?_
      refine jv_iastore (jv_dk t_X6_readKind (k := 28) rfl) (fun h5 => ?_)
      refine jv_iconst (v := 0) (jv_dk t_X6_readKind (k := 29) rfl) (by decide) ?_
      exact jv_iret (ty := .int) (jv_dk t_X6_readKind (k := 30) rfl) rfl rfl rfl
  · refine jv_iconst (v := 1) (jv_dk t_X6_readKind (k := 20) rfl) (by decide) ?_
    refine jv_goto (tgt := 56) (jv_dk t_X6_readKind (k := 21) rfl) rfl ?_
    refine jv_iastore (jv_dk t_X6_readKind (k := 28) rfl) (fun h6 => ?_)
    refine jv_iconst (v := 0) (jv_dk t_X6_readKind (k := 29) rfl) (by decide) ?_
    exact jv_iret (ty := .int) (jv_dk t_X6_readKind (k := 30) rfl) rfl rfl rfl
def f_X6_readKind (a0 : Nat) (a1 : Int32) (h : jh) : Option (Int32 × jh) :=
  cV h a0 4 (f_X6_actNamed a0 h) fun v1 h2 =>
  acm v1 1 (f_X6_readKind_b28 a0 a1 v1 h2) (acm v1 2 (f_X6_readKind_b28 a0 a1 v1 h2) (acm v1 3 (f_X6_readKind_b28 a0 a1 v1 h2) (some (1, h2))))
theorem P_X6_readKind (X : jx) (a0 : Nat) (a1 : Int32) (h : jh) : jv_P X M_X6_readKind jeI [.ref (a0), .int (a1)] h (f_X6_readKind a0 a1 h) := by
  refine jv_P.of (by decide) rfl (by simp [Value.category]) (Nat.le_of_ble_eq_true rfl) ?_
  show jv_O X M_X6_readKind (h.1, h.2.1) jeI 0 [some (.ref (a0)), some (.int (a1)), none] [] h (f_X6_readKind a0 a1 h)
  unfold f_X6_readKind
  refine jv_aload_n (jv_dk t_X6_readKind (k := 0) rfl) rfl rfl (Or.inr ⟨_, rfl⟩) ?_
  refine jv_callV (en' := (jeE X)) (pv := (jpE X)) (As := []) (S := []) (jv_dk t_X6_readKind (k := 1) rfl) (fun _ => rfl) (Or.inl lk_X6_46) me_X6_actNamed mv_X6_actNamed ⟨by decide, by decide⟩ rfl rfl rfl (Nat.le_of_ble_eq_true rfl) (P_X6_actNamed X a0 h) (fun v1 h2 => ?_)
  show jv_O X M_X6_readKind _ jeI 4 [some (.ref (a0)), some (.int (a1)), none] [va_rf (Option.map (jv_ad X) (v1))] h2 _
  refine jv_astore_n (L' := [some (.ref (a0)), some (.int (a1)), some (va_rf (Option.map (jv_ad X) (v1)))]) (jv_dk t_X6_readKind (k := 2) rfl) rfl (Nat.le_of_ble_eq_true rfl) (va_rf_or _) rfl ?_
  refine jv_aload_n (jv_dk t_X6_readKind (k := 3) rfl) rfl rfl (va_rf_or _) ?_
  refine jv_gs (jv_dk t_X6_readKind (k := 4) rfl) sl_X6_83 (fun U hK => (hK.2.2.2.1 1 (by decide)).1) ?_
  refine jv_acm_eq (t := v1) (k := 1) (tgt := 28) (jv_dk t_X6_readKind (k := 5) rfl) rfl (by decide) ?_ ?_
  · exact o_f_X6_readKind_b28 _ _ _ _ 
  · refine jv_aload_n (jv_dk t_X6_readKind (k := 6) rfl) rfl rfl (va_rf_or _) ?_
    refine jv_gs (jv_dk t_X6_readKind (k := 7) rfl) sl_X6_87 (fun U hK => (hK.2.2.2.1 2 (by decide)).1) ?_
    refine jv_acm_eq (t := v1) (k := 2) (tgt := 28) (jv_dk t_X6_readKind (k := 8) rfl) rfl (by decide) ?_ ?_
    · exact o_f_X6_readKind_b28 _ _ _ _ 
    · refine jv_aload_n (jv_dk t_X6_readKind (k := 9) rfl) rfl rfl (va_rf_or _) ?_
      refine jv_gs (jv_dk t_X6_readKind (k := 10) rfl) sl_X6_90 (fun U hK => (hK.2.2.2.1 3 (by decide)).1) ?_
      refine jv_acm_eq (t := v1) (k := 3) (tgt := 28) (jv_dk t_X6_readKind (k := 11) rfl) rfl (by decide) ?_ ?_
      · exact o_f_X6_readKind_b28 _ _ _ _ 
      · refine jv_iconst (v := 1) (jv_dk t_X6_readKind (k := 12) rfl) (by decide) ?_
        exact jv_iret (ty := .int) (jv_dk t_X6_readKind (k := 13) rfl) rfl rfl rfl
def t0_X6_greatest : List (Nat × Instr × Nat) := [(0, .iload_n 0, 1), (1, .bipush 112, 2), (3, .if_icmp .ne 8, 3), (6, .bipush 15, 2), (8, .goto 16, 3), (11, .iload_n 0, 1), (12, .bipush 115, 2), (14, .if_icmp .ne 8, 3), (17, .bipush 7, 2), (19, .goto 5, 3), (22, .bipush 99, 2), (24, .ireturn, 1)]
theorem t_X6_greatest : jv_dec cX6_greatest t0_X6_greatest = true := by decide +kernel
def M_X6_greatest : jm := (yX6_greatest, cX6_greatest, 1, (some .int), 0, 0, [])
def f_X6_greatest (a0 : Int32) (h : jh) : Option (Int32 × jh) :=
  (if ¬ a0 = 112 then
  (if ¬ a0 = 115 then
  some (99, h)
  else
  some (7, h))
  else
  some (15, h))
theorem P_X6_greatest (X : jx) (a0 : Int32) (h : jh) : jv_P X M_X6_greatest jeI [.int (a0)] h (f_X6_greatest a0 h) := by
  refine jv_P.of (by decide) rfl (by simp [Value.category]) (Nat.le_of_ble_eq_true rfl) ?_
  show jv_O X M_X6_greatest (h.1, h.2.1) jeI 0 [some (.int (a0))] [] h (f_X6_greatest a0 h)
  unfold f_X6_greatest
  refine jv_iload_n (jv_dk t_X6_greatest (k := 0) rfl) rfl rfl ?_
  refine jv_bipush (v := 112) (jv_dk t_X6_greatest (k := 1) rfl) (by decide) ?_
  refine jv_icmp_ne (tgt := 11) (jv_dk t_X6_greatest (k := 2) rfl) rfl (fun c1 => ?_) (fun c1 => ?_)
  · refine jv_iload_n (jv_dk t_X6_greatest (k := 5) rfl) rfl rfl ?_
    refine jv_bipush (v := 115) (jv_dk t_X6_greatest (k := 6) rfl) (by decide) ?_
    refine jv_icmp_ne (tgt := 22) (jv_dk t_X6_greatest (k := 7) rfl) rfl (fun c2 => ?_) (fun c2 => ?_)
    · refine jv_bipush (v := 99) (jv_dk t_X6_greatest (k := 10) rfl) (by decide) ?_
      exact jv_iret (ty := .int) (jv_dk t_X6_greatest (k := 11) rfl) rfl rfl rfl
    · show jv_O _ _ _ _ 17 _ _ _ _
      refine jv_bipush (v := 7) (jv_dk t_X6_greatest (k := 8) rfl) (by decide) ?_
      refine jv_goto (tgt := 24) (jv_dk t_X6_greatest (k := 9) rfl) rfl ?_
      exact jv_iret (ty := .int) (jv_dk t_X6_greatest (k := 11) rfl) rfl rfl rfl
  · show jv_O _ _ _ _ 6 _ _ _ _
    refine jv_bipush (v := 15) (jv_dk t_X6_greatest (k := 3) rfl) (by decide) ?_
    refine jv_goto (tgt := 24) (jv_dk t_X6_greatest (k := 4) rfl) rfl ?_
    exact jv_iret (ty := .int) (jv_dk t_X6_greatest (k := 11) rfl) rfl rfl rfl
def t0_X6_readNumber : List (Nat × Instr × Nat) := [(0, .aload_n 0, 1), (1, .getfield 25, 3), (4, .iconst 2, 1), (5, .if_icmp .eq 5, 3), (8, .iconst 1, 1), (9, .ireturn, 1), (10, .aload_n 0, 1), (11, .getfield 31, 3), (14, .aload_n 0, 1), (15, .getfield 28, 3), (18, .isub, 1), (19, .iconst 2, 1), (20, .if_icmp .le 5, 3), (23, .iconst 2, 1), (24, .ireturn, 1), (25, .iconst 0, 1), (26, .istore_n 3, 1), (27, .aload_n 0, 1), (28, .getfield 28, 3), (31, .istore 4, 2), (33, .iload 4, 2), (35, .aload_n 0, 1), (36, .getfield 31, 3), (39, .if_icmp .ge 34, 3), (42, .iload 4, 2), (44, .aload_n 0, 1), (45, .getfield 22, 3), (48, .if_icmp .ge 25, 3), (51, .iload_n 3, 1), (52, .bipush 10, 2), (54, .imul, 1), (55, .aload_n 0, 1), (56, .getfield 9, 3), (59, .iload 4, 2), (61, .iaload, 1), (62, .iadd, 1), (63, .bipush 48, 2), (65, .isub, 1), (66, .istore_n 3, 1), (67, .iinc 4 1, 3), (70, .goto (-37), 3), (73, .aload_n 0, 1), (74, .getfield 15, 3), (77, .iload_n 1, 1), (78, .iload_n 3, 1), (79, .iastore, 1), (80, .iload_n 3, 1), (81, .iload_n 2, 1), (82, .invokestatic 93, 3), (85, .if_icmp .le 7, 3), (88, .iconst 2, 1), (89, .goto 4, 3), (92, .iconst 0, 1), (93, .ireturn, 1)]
theorem t_X6_readNumber : jv_dec cX6_readNumber t0_X6_readNumber = true := by decide +kernel
def M_X6_readNumber : jm := (yX6_readNumber, cX6_readNumber, 5, (some .int), 1, 20, [])
theorem lk_X6_93 : Cond.methodLink RX6 93 M_X6_greatest.1 ∈ lw_tbl := (jv_at 1094 (by decide +kernel))
set_option maxRecDepth 20000 in
theorem me_X6_greatest : jv_me M_X6_greatest 1 := ⟨(jv_in4 (List.mem_of_getElem? (i := 216) rfl)), (jv_at 171 (by decide +kernel)), ⟨by decide, by decide⟩, by decide +kernel⟩
theorem ms_X6_greatest : jv_ms M_X6_greatest := (jv_at 1095 (by decide +kernel))
def f_X6_readNumber_h33 (K33 : Nat → Int32 → Int32 → Int32 → jh → Option (Int32 × jh)) (R33 : Nat → Int32 → Int32 → Int32 → Int32 → jh → Option (Int32 × jh)) (x0 : Nat) (x1 : Int32) (x2 : Int32) (x3 : Int32) (x4 : Int32) (h : jh) : Option (Int32 × jh) :=
  gI h x0 4 6 fun v7 =>
  (if v7 ≤ x4 then
  K33 x0 x1 x2 x3 h
  else
  gI h x0 4 3 fun v9 =>
  (if v9 ≤ x4 then
  K33 x0 x1 x2 x3 h
  else
  gR h x0 4 0 fun v11 =>
  aI h v11 x4 fun v12 =>
  R33 x0 x1 x2 (((x3 * 10) + v12) - 48) (x4 + 1) h))
theorem o_f_X6_readNumber_h33 {X : jx} {b0 : Nat × Nat} {K33 : Nat → Int32 → Int32 → Int32 → jh → Option (Int32 × jh)} (hK33 : ∀ (x0 : Nat) (x1 : Int32) (x2 : Int32) (x3 : Int32) (h : jh), jv_O X M_X6_readNumber b0 jeI 73 [some (.ref (x0)), some (.int (x1)), some (.int (x2)), some (.int (x3)), none] [] h (K33 x0 x1 x2 x3 h)) : ∀ (x0 : Nat) (x1 : Int32) (x2 : Int32) (x3 : Int32) (x4 : Int32) (h : jh), jv_O X M_X6_readNumber b0 jeI 33 [some (.ref (x0)), some (.int (x1)), some (.int (x2)), some (.int (x3)), some (.int (x4))] [] h (jlp5 (f_X6_readNumber_h33 K33) jfu x0 x1 x2 x3 x4 h) := by
  refine jlp5_ok (P := fun x0 x1 x2 x3 x4 h o => jv_O X M_X6_readNumber b0 jeI 33 [some (.ref (x0)), some (.int (x1)), some (.int (x2)), some (.int (x3)), some (.int (x4))] [] h o) (fun R33 hR33 => ?_) (fun _ _ _ _ _ _  => jv_none rfl) jfu
  intro x0 x1 x2 x3 x4 h
  unfold f_X6_readNumber_h33
  refine jv_iload (jv_dk t_X6_readNumber (k := 20) rfl) rfl ?_
  refine jv_aload_n (jv_dk t_X6_readNumber (k := 21) rfl) rfl rfl (Or.inr ⟨_, rfl⟩) ?_
  refine jv_gI (jv_dk t_X6_readNumber (k := 22) rfl) fl_X6_31 (fun v7 => ?_)
  refine jv_icmp_ge (tgt := 73) (jv_dk t_X6_readNumber (k := 23) rfl) rfl (fun c8 => ?_) (fun c8 => ?_)
  · refine jv_le_row (jv_le_s (jv_le_s (jv_le_s (jv_le_s (jv_le_n (jv_le_nil)))))) ?_
    exact hK33 _ _ _ _ _ 
  · show jv_O _ _ _ _ 42 _ _ _ _
    refine jv_iload (jv_dk t_X6_readNumber (k := 24) rfl) rfl ?_
    refine jv_aload_n (jv_dk t_X6_readNumber (k := 25) rfl) rfl rfl (Or.inr ⟨_, rfl⟩) ?_
    refine jv_gI (jv_dk t_X6_readNumber (k := 26) rfl) fl_X6_22 (fun v9 => ?_)
    refine jv_icmp_ge (tgt := 73) (jv_dk t_X6_readNumber (k := 27) rfl) rfl (fun c10 => ?_) (fun c10 => ?_)
    · refine jv_le_row (jv_le_s (jv_le_s (jv_le_s (jv_le_s (jv_le_n (jv_le_nil)))))) ?_
      exact hK33 _ _ _ _ _ 
    · show jv_O _ _ _ _ 51 _ _ _ _
      refine jv_iload_n (jv_dk t_X6_readNumber (k := 28) rfl) rfl rfl ?_
      refine jv_bipush (v := 10) (jv_dk t_X6_readNumber (k := 29) rfl) (by decide) ?_
      refine jv_imul (jv_dk t_X6_readNumber (k := 30) rfl) ?_
      refine jv_aload_n (jv_dk t_X6_readNumber (k := 31) rfl) rfl rfl (Or.inr ⟨_, rfl⟩) ?_
      refine jv_gR (jv_dk t_X6_readNumber (k := 32) rfl) fl_X6_9 (fun v11 => ?_)
      refine jv_iload (jv_dk t_X6_readNumber (k := 33) rfl) rfl ?_
      refine jv_iaload (jv_dk t_X6_readNumber (k := 34) rfl) (fun v12 => ?_)
      refine jv_iadd (jv_dk t_X6_readNumber (k := 35) rfl) ?_
      refine jv_bipush (v := 48) (jv_dk t_X6_readNumber (k := 36) rfl) (by decide) ?_
      refine jv_isub (jv_dk t_X6_readNumber (k := 37) rfl) ?_
      refine jv_istore_n (L' := [some (.ref (x0)), some (.int (x1)), some (.int (x2)), some (.int (((x3 * 10) + v12) - 48)), some (.int (x4))]) (jv_dk t_X6_readNumber (k := 38) rfl) rfl (Nat.le_of_ble_eq_true rfl) rfl ?_
      refine jv_iinc (v := 1) (L' := [some (.ref (x0)), some (.int (x1)), some (.int (x2)), some (.int (((x3 * 10) + v12) - 48)), some (.int (x4 + 1))]) (jv_dk t_X6_readNumber (k := 39) rfl) rfl (by decide) rfl ?_
      refine jv_goto (tgt := 33) (jv_dk t_X6_readNumber (k := 40) rfl) rfl ?_
      exact hR33 _ _ _ _ _ _ 
def f_X6_readNumber_b73 (x0 : Nat) (x1 : Int32) (x2 : Int32) (x3 : Int32) (h : jh) : Option (Int32 × jh) :=
  gR h x0 4 1 fun v18 =>
  sI h v18 x1 x3 fun h19 =>
  bd (f_X6_greatest x2 h19) fun v20 h21 =>
  (if x3 ≤ v20 then
  some (0, h21)
  else
  some (2, h21))
theorem o_f_X6_readNumber_b73 {X : jx} {b0 : Nat × Nat} (x0 : Nat) (x1 : Int32) (x2 : Int32) (x3 : Int32) (h : jh) : jv_O X M_X6_readNumber b0 jeI 73 [some (.ref (x0)), some (.int (x1)), some (.int (x2)), some (.int (x3)), none] [] h (f_X6_readNumber_b73 x0 x1 x2 x3 h) := by
  unfold f_X6_readNumber_b73
  refine jv_aload_n (jv_dk t_X6_readNumber (k := 41) rfl) rfl rfl (Or.inr ⟨_, rfl⟩) ?_
  refine jv_gR (jv_dk t_X6_readNumber (k := 42) rfl) fl_X6_15 (fun v18 => ?_)
  refine jv_iload_n (jv_dk t_X6_readNumber (k := 43) rfl) rfl rfl ?_
  refine jv_iload_n (jv_dk t_X6_readNumber (k := 44) rfl) rfl rfl ?_
  refine jv_iastore (jv_dk t_X6_readNumber (k := 45) rfl) (fun h19 => ?_)
  refine jv_iload_n (jv_dk t_X6_readNumber (k := 46) rfl) rfl rfl ?_
  refine jv_iload_n (jv_dk t_X6_readNumber (k := 47) rfl) rfl rfl ?_
  refine jv_callS (en' := jeI) (pv := jpI) (As := [.int (x2)]) (S := [.int (x3)]) (jv_dk t_X6_readNumber (k := 48) rfl) (fun _ => rfl) (Or.inl lk_X6_93) me_X6_greatest ms_X6_greatest ⟨by decide, by decide⟩ rfl rfl (Nat.le_of_ble_eq_true rfl) (P_X6_greatest X x2 h19) (fun v20 h21 => ?_)
  show jv_O X M_X6_readNumber _ jeI 85 [some (.ref (x0)), some (.int (x1)), some (.int (x2)), some (.int (x3)), none] [.int (v20), .int (x3)] h21 _
  refine jv_icmp_le (tgt := 92) (jv_dk t_X6_readNumber (k := 49) rfl) rfl (fun c22 => ?_) (fun c22 => ?_)
  · refine jv_iconst (v := 0) (jv_dk t_X6_readNumber (k := 52) rfl) (by decide) ?_
    exact jv_iret (ty := .int) (jv_dk t_X6_readNumber (k := 53) rfl) rfl rfl rfl
  · show jv_O _ _ _ _ 88 _ _ _ _
    refine jv_iconst (v := 2) (jv_dk t_X6_readNumber (k := 50) rfl) (by decide) ?_
    refine jv_goto (tgt := 93) (jv_dk t_X6_readNumber (k := 51) rfl) rfl ?_
    exact jv_iret (ty := .int) (jv_dk t_X6_readNumber (k := 53) rfl) rfl rfl rfl
def f_X6_readNumber (a0 : Nat) (a1 : Int32) (a2 : Int32) (h : jh) : Option (Int32 × jh) :=
  gI h a0 4 4 fun v1 =>
  (if v1 = 2 then
  gI h a0 4 6 fun v3 =>
  gI h a0 4 5 fun v4 =>
  (if (v3 - v4) ≤ 2 then
  gI h a0 4 5 fun v6 =>
  jlp5 (f_X6_readNumber_h33 (fun y14 y15 y16 y17 h13 =>
  f_X6_readNumber_b73 y14 y15 y16 y17 h13)) jfu a0 a1 a2 0 v6 h
  else
  some (2, h))
  else
  some (1, h))
theorem P_X6_readNumber (X : jx) (a0 : Nat) (a1 : Int32) (a2 : Int32) (h : jh) : jv_P X M_X6_readNumber jeI [.ref (a0), .int (a1), .int (a2)] h (f_X6_readNumber a0 a1 a2 h) := by
  refine jv_P.of (by decide) rfl (by simp [Value.category]) (Nat.le_of_ble_eq_true rfl) ?_
  show jv_O X M_X6_readNumber (h.1, h.2.1) jeI 0 [some (.ref (a0)), some (.int (a1)), some (.int (a2)), none, none] [] h (f_X6_readNumber a0 a1 a2 h)
  unfold f_X6_readNumber
  refine jv_aload_n (jv_dk t_X6_readNumber (k := 0) rfl) rfl rfl (Or.inr ⟨_, rfl⟩) ?_
  refine jv_gI (jv_dk t_X6_readNumber (k := 1) rfl) fl_X6_25 (fun v1 => ?_)
  refine jv_iconst (v := 2) (jv_dk t_X6_readNumber (k := 2) rfl) (by decide) ?_
  refine jv_icmp_eq (tgt := 10) (jv_dk t_X6_readNumber (k := 3) rfl) rfl (fun c2 => ?_) (fun c2 => ?_)
  · refine jv_aload_n (jv_dk t_X6_readNumber (k := 6) rfl) rfl rfl (Or.inr ⟨_, rfl⟩) ?_
    refine jv_gI (jv_dk t_X6_readNumber (k := 7) rfl) fl_X6_31 (fun v3 => ?_)
    refine jv_aload_n (jv_dk t_X6_readNumber (k := 8) rfl) rfl rfl (Or.inr ⟨_, rfl⟩) ?_
    refine jv_gI (jv_dk t_X6_readNumber (k := 9) rfl) fl_X6_28 (fun v4 => ?_)
    refine jv_isub (jv_dk t_X6_readNumber (k := 10) rfl) ?_
    refine jv_iconst (v := 2) (jv_dk t_X6_readNumber (k := 11) rfl) (by decide) ?_
    refine jv_icmp_le (tgt := 25) (jv_dk t_X6_readNumber (k := 12) rfl) rfl (fun c5 => ?_) (fun c5 => ?_)
    · refine jv_iconst (v := 0) (jv_dk t_X6_readNumber (k := 15) rfl) (by decide) ?_
      refine jv_istore_n (L' := [some (.ref (a0)), some (.int (a1)), some (.int (a2)), some (.int (0)), none]) (jv_dk t_X6_readNumber (k := 16) rfl) rfl (Nat.le_of_ble_eq_true rfl) rfl ?_
      refine jv_aload_n (jv_dk t_X6_readNumber (k := 17) rfl) rfl rfl (Or.inr ⟨_, rfl⟩) ?_
      refine jv_gI (jv_dk t_X6_readNumber (k := 18) rfl) fl_X6_28 (fun v6 => ?_)
      refine jv_istore (L' := [some (.ref (a0)), some (.int (a1)), some (.int (a2)), some (.int (0)), some (.int (v6))]) (jv_dk t_X6_readNumber (k := 19) rfl) (Nat.le_of_ble_eq_true rfl) rfl ?_
      refine o_f_X6_readNumber_h33 (fun y14 y15 y16 y17 h13 => ?_) _ _ _ _ _ _ 
      show jv_O X M_X6_readNumber _ jeI 73 [some (.ref (y14)), some (.int (y15)), some (.int (y16)), some (.int (y17)), none] [] h13 _
      exact o_f_X6_readNumber_b73 _ _ _ _ _ 
    · show jv_O _ _ _ _ 23 _ _ _ _
      refine jv_iconst (v := 2) (jv_dk t_X6_readNumber (k := 13) rfl) (by decide) ?_
      exact jv_iret (ty := .int) (jv_dk t_X6_readNumber (k := 14) rfl) rfl rfl rfl
  · show jv_O _ _ _ _ 8 _ _ _ _
    refine jv_iconst (v := 1) (jv_dk t_X6_readNumber (k := 4) rfl) (by decide) ?_
    exact jv_iret (ty := .int) (jv_dk t_X6_readNumber (k := 5) rfl) rfl rfl rfl
def t0_X6_readOperands : List (Nat × Instr × Nat) := [(0, .iconst 0, 1), (1, .istore_n 2, 1), (2, .iload_n 2, 1), (3, .aload_n 1, 1), (4, .getfield 60, 3), (7, .invokevirtual 66, 3), (10, .if_icmp .ge 59, 3), (13, .iload_n 2, 1), (14, .iconst 5, 1), (15, .if_icmp .ge 54, 3), (18, .aload_n 0, 1), (19, .invokevirtual 43, 3), (22, .aload_n 1, 1), (23, .getfield 60, 3), (26, .iload_n 2, 1), (27, .invokevirtual 71, 3), (30, .bipush 107, 2), (32, .if_icmp .ne 11, 3), (35, .aload_n 0, 1), (36, .iload_n 2, 1), (37, .invokevirtual 75, 3), (40, .goto 16, 3), (43, .aload_n 0, 1), (44, .iload_n 2, 1), (45, .aload_n 1, 1), (46, .getfield 60, 3), (49, .iload_n 2, 1), (50, .invokevirtual 71, 3), (53, .invokevirtual 79, 3), (56, .istore_n 3, 1), (57, .iload_n 3, 1), (58, .ifCond .eq 5, 3), (61, .iload_n 3, 1), (62, .ireturn, 1), (63, .iinc 2 1, 3), (66, .goto (-64), 3), (69, .aload_n 0, 1), (70, .invokevirtual 43, 3), (73, .aload_n 0, 1), (74, .getfield 25, 3), (77, .iconst 3, 1), (78, .if_icmp .ne 7, 3), (81, .iconst 0, 1), (82, .goto 4, 3), (85, .iconst 1, 1), (86, .ireturn, 1)]
theorem t_X6_readOperands : jv_dec cX6_readOperands t0_X6_readOperands = true := by decide +kernel
def M_X6_readOperands : jm := (yX6_readOperands, cX6_readOperands, 4, (some .int), 8, 246, [])
theorem sl_X6_60 : jv_fl RX6 60 "SpaceWarden$Act" "shape" "Ljava/lang/String;" := Or.inr ⟨"SpaceWarden", (jv_at 1934 (by decide +kernel))⟩
theorem lk_X6_43 : Cond.methodLink RX6 43 M_X6_nextToken.1 ∈ lw_tbl := (jv_at 1013 (by decide +kernel))
set_option maxRecDepth 20000 in
theorem me_X6_nextToken : jv_me M_X6_nextToken 0 := ⟨(jv_in4 (List.mem_of_getElem? (i := 136) rfl)), (jv_at 171 (by decide +kernel)), ⟨by decide, by decide⟩, by decide +kernel⟩
theorem lk_X6_79 : Cond.methodLink RX6 79 M_X6_readNumber.1 ∈ lw_tbl := (jv_at 1090 (by decide +kernel))
set_option maxRecDepth 20000 in
theorem me_X6_readNumber : jv_me M_X6_readNumber 2 := ⟨(jv_in4 (List.mem_of_getElem? (i := 213) rfl)), (jv_at 171 (by decide +kernel)), ⟨by decide, by decide⟩, by decide +kernel⟩
theorem mv_X6_readNumber : jv_mv M_X6_readNumber := ⟨(jv_at 1092 (by decide +kernel)), (jv_at 75 (by decide +kernel))⟩
theorem lk_X6_75 : Cond.methodLink RX6 75 M_X6_readKind.1 ∈ lw_tbl := (jv_at 1083 (by decide +kernel))
set_option maxRecDepth 20000 in
theorem me_X6_readKind : jv_me M_X6_readKind 1 := ⟨(jv_in4 (List.mem_of_getElem? (i := 206) rfl)), (jv_at 171 (by decide +kernel)), ⟨by decide, by decide⟩, by decide +kernel⟩
theorem mv_X6_readKind : jv_mv M_X6_readKind := ⟨(jv_at 1085 (by decide +kernel)), (jv_at 74 (by decide +kernel))⟩
theorem mv_X6_nextToken : jv_mv M_X6_nextToken := ⟨(jv_at 1015 (by decide +kernel)), (jv_at 69 (by decide +kernel))⟩
def f_X6_readOperands_b56 (R2 : Nat → Nat → Int32 → jh → Option (Int32 × jh)) (K2 : Nat → jh → Option (Int32 × jh)) (x0 : Nat) (x1 : Nat) (x2 : Int32) (s0 : Int32) (h : jh) : Option (Int32 × jh) :=
  (if s0 = 0 then
  R2 x0 x1 (x2 + 1) h
  else
  some (s0, h))
theorem o_f_X6_readOperands_b56 {X : jx} {b0 : Nat × Nat} {R2 : Nat → Nat → Int32 → jh → Option (Int32 × jh)} {K2 : Nat → jh → Option (Int32 × jh)} (hR2 : ∀ (x0 : Nat) (x1 : Nat) (x2 : Int32) (h : jh), jv_O X M_X6_readOperands b0 jeI 2 [some (.ref (x0)), some (.ref (jv_ad X (x1))), some (.int (x2)), none] [] h (R2 x0 x1 x2 h)) (hK2 : ∀ (x0 : Nat) (h : jh), jv_O X M_X6_readOperands b0 jeI 69 [some (.ref (x0)), none, none, none] [] h (K2 x0 h)) (x0 : Nat) (x1 : Nat) (x2 : Int32) (s0 : Int32) (h : jh) : jv_O X M_X6_readOperands b0 jeI 56 [some (.ref (x0)), some (.ref (jv_ad X (x1))), some (.int (x2)), none] [.int (s0)] h (f_X6_readOperands_b56 R2 K2 x0 x1 x2 s0 h) := by
  unfold f_X6_readOperands_b56
  refine jv_istore_n (L' := [some (.ref (x0)), some (.ref (jv_ad X (x1))), some (.int (x2)), some (.int (s0))]) (jv_dk t_X6_readOperands (k := 29) rfl) rfl (Nat.le_of_ble_eq_true rfl) rfl ?_
  refine jv_iload_n (jv_dk t_X6_readOperands (k := 30) rfl) rfl rfl ?_
  refine jv_if_eq (tgt := 63) (jv_dk t_X6_readOperands (k := 31) rfl) rfl (fun c13 => ?_) (fun c13 => ?_)
  · refine jv_iinc (v := 1) (L' := [some (.ref (x0)), some (.ref (jv_ad X (x1))), some (.int (x2 + 1)), some (.int (s0))]) (jv_dk t_X6_readOperands (k := 34) rfl) rfl (by decide) rfl ?_
    refine jv_goto (tgt := 2) (jv_dk t_X6_readOperands (k := 35) rfl) rfl ?_
    refine jv_le_row (jv_le_s (jv_le_s (jv_le_s (jv_le_n (jv_le_nil))))) ?_
    exact hR2 _ _ _ _ 
  · show jv_O _ _ _ _ 61 _ _ _ _
    refine jv_iload_n (jv_dk t_X6_readOperands (k := 32) rfl) rfl rfl ?_
    exact jv_iret (ty := .int) (jv_dk t_X6_readOperands (k := 33) rfl) rfl rfl rfl
def f_X6_readOperands_h2 (K2 : Nat → jh → Option (Int32 × jh)) (R2 : Nat → Nat → Int32 → jh → Option (Int32 × jh)) (x0 : Nat) (x1 : Nat) (x2 : Int32) (h : jh) : Option (Int32 × jh) :=
  eS x1 fun v1 =>
  tL v1 fun v2 =>
  (if v2 ≤ x2 then
  K2 x0 h
  else
  (if 5 ≤ x2 then
  K2 x0 h
  else
  cV h x0 4 (f_X6_nextToken x0 h) fun _ h5 =>
  eS x1 fun v6 =>
  tC v6 x2 fun v7 =>
  (if ¬ v7 = 107 then
  eS x1 fun v9 =>
  tC v9 x2 fun v10 =>
  cV h5 x0 4 (f_X6_readNumber x0 x2 v10 h5) fun v11 h12 =>
  f_X6_readOperands_b56 R2 K2 x0 x1 x2 v11 h12
  else
  cV h5 x0 4 (f_X6_readKind x0 x2 h5) fun v14 h15 =>
  f_X6_readOperands_b56 R2 K2 x0 x1 x2 v14 h15)))
theorem o_f_X6_readOperands_h2 {X : jx} {b0 : Nat × Nat} {K2 : Nat → jh → Option (Int32 × jh)} (hK2 : ∀ (x0 : Nat) (h : jh), jv_O X M_X6_readOperands b0 jeI 69 [some (.ref (x0)), none, none, none] [] h (K2 x0 h)) : ∀ (x0 : Nat) (x1 : Nat) (x2 : Int32) (h : jh), jv_O X M_X6_readOperands b0 jeI 2 [some (.ref (x0)), some (.ref (jv_ad X (x1))), some (.int (x2)), none] [] h (jlp3 (f_X6_readOperands_h2 K2) jfu x0 x1 x2 h) := by
  refine jlp3_ok (P := fun x0 x1 x2 h o => jv_O X M_X6_readOperands b0 jeI 2 [some (.ref (x0)), some (.ref (jv_ad X (x1))), some (.int (x2)), none] [] h o) (fun R2 hR2 => ?_) (fun _ _ _ _  => jv_none rfl) jfu
  intro x0 x1 x2 h
  unfold f_X6_readOperands_h2
  refine jv_iload_n (jv_dk t_X6_readOperands (k := 2) rfl) rfl rfl ?_
  refine jv_aload_n (jv_dk t_X6_readOperands (k := 3) rfl) rfl rfl (Or.inr ⟨_, rfl⟩) ?_
  refine jv_eS (jv_dk t_X6_readOperands (k := 4) rfl) sl_X6_60 (fun v1 => ?_)
  refine jv_tL (jv_dk t_X6_readOperands (k := 5) rfl) lk_X6_66 ⟨by decide, by decide⟩ (Nat.le_of_ble_eq_true rfl) (fun v2 => ?_)
  refine jv_icmp_ge (tgt := 69) (jv_dk t_X6_readOperands (k := 6) rfl) rfl (fun c3 => ?_) (fun c3 => ?_)
  · refine jv_le_row (jv_le_s (jv_le_n (jv_le_n (jv_le_n (jv_le_nil))))) ?_
    exact hK2 _ _ 
  · show jv_O _ _ _ _ 13 _ _ _ _
    refine jv_iload_n (jv_dk t_X6_readOperands (k := 7) rfl) rfl rfl ?_
    refine jv_iconst (v := 5) (jv_dk t_X6_readOperands (k := 8) rfl) (by decide) ?_
    refine jv_icmp_ge (tgt := 69) (jv_dk t_X6_readOperands (k := 9) rfl) rfl (fun c4 => ?_) (fun c4 => ?_)
    · refine jv_le_row (jv_le_s (jv_le_n (jv_le_n (jv_le_n (jv_le_nil))))) ?_
      exact hK2 _ _ 
    · show jv_O _ _ _ _ 18 _ _ _ _
      refine jv_aload_n (jv_dk t_X6_readOperands (k := 10) rfl) rfl rfl (Or.inr ⟨_, rfl⟩) ?_
      refine jv_callV (en' := jeV) (pv := jpV) (As := []) (S := []) (jv_dk t_X6_readOperands (k := 11) rfl) (fun _ => rfl) (Or.inl lk_X6_43) me_X6_nextToken mv_X6_nextToken ⟨by decide, by decide⟩ rfl rfl rfl (Nat.le_of_ble_eq_true rfl) (P_X6_nextToken X x0 h) (fun _ h5 => ?_)
      show jv_O X M_X6_readOperands _ jeI 22 [some (.ref (x0)), some (.ref (jv_ad X (x1))), some (.int (x2)), none] [] h5 _
      refine jv_aload_n (jv_dk t_X6_readOperands (k := 12) rfl) rfl rfl (Or.inr ⟨_, rfl⟩) ?_
      refine jv_eS (jv_dk t_X6_readOperands (k := 13) rfl) sl_X6_60 (fun v6 => ?_)
      refine jv_iload_n (jv_dk t_X6_readOperands (k := 14) rfl) rfl rfl ?_
      refine jv_tC (jv_dk t_X6_readOperands (k := 15) rfl) lk_X6_71 ⟨by decide, by decide⟩ (Nat.le_of_ble_eq_true rfl) (fun v7 => ?_)
      refine jv_bipush (v := 107) (jv_dk t_X6_readOperands (k := 16) rfl) (by decide) ?_
      refine jv_icmp_ne (tgt := 43) (jv_dk t_X6_readOperands (k := 17) rfl) rfl (fun c8 => ?_) (fun c8 => ?_)
      · refine jv_aload_n (jv_dk t_X6_readOperands (k := 22) rfl) rfl rfl (Or.inr ⟨_, rfl⟩) ?_
        refine jv_iload_n (jv_dk t_X6_readOperands (k := 23) rfl) rfl rfl ?_
        refine jv_aload_n (jv_dk t_X6_readOperands (k := 24) rfl) rfl rfl (Or.inr ⟨_, rfl⟩) ?_
        refine jv_eS (jv_dk t_X6_readOperands (k := 25) rfl) sl_X6_60 (fun v9 => ?_)
        refine jv_iload_n (jv_dk t_X6_readOperands (k := 26) rfl) rfl rfl ?_
        refine jv_tC (jv_dk t_X6_readOperands (k := 27) rfl) lk_X6_71 ⟨by decide, by decide⟩ (Nat.le_of_ble_eq_true rfl) (fun v10 => ?_)
        refine jv_callV (en' := jeI) (pv := jpI) (As := [.int (x2), .int (v10)]) (S := []) (jv_dk t_X6_readOperands (k := 28) rfl) (fun _ => rfl) (Or.inl lk_X6_79) me_X6_readNumber mv_X6_readNumber ⟨by decide, by decide⟩ rfl rfl rfl (Nat.le_of_ble_eq_true rfl) (P_X6_readNumber X x0 x2 v10 h5) (fun v11 h12 => ?_)
        show jv_O X M_X6_readOperands _ jeI 56 [some (.ref (x0)), some (.ref (jv_ad X (x1))), some (.int (x2)), none] [.int (v11)] h12 _
        exact o_f_X6_readOperands_b56 hR2 hK2 _ _ _ _ _ 
      · show jv_O _ _ _ _ 35 _ _ _ _
        refine jv_aload_n (jv_dk t_X6_readOperands (k := 18) rfl) rfl rfl (Or.inr ⟨_, rfl⟩) ?_
        refine jv_iload_n (jv_dk t_X6_readOperands (k := 19) rfl) rfl rfl ?_
        refine jv_callV (en' := jeI) (pv := jpI) (As := [.int (x2)]) (S := []) (jv_dk t_X6_readOperands (k := 20) rfl) (fun _ => rfl) (Or.inl lk_X6_75) me_X6_readKind mv_X6_readKind ⟨by decide, by decide⟩ rfl rfl rfl (Nat.le_of_ble_eq_true rfl) (P_X6_readKind X x0 x2 h5) (fun v14 h15 => ?_)
        show jv_O X M_X6_readOperands _ jeI 40 [some (.ref (x0)), some (.ref (jv_ad X (x1))), some (.int (x2)), none] [.int (v14)] h15 _
        refine jv_goto (tgt := 56) (jv_dk t_X6_readOperands (k := 21) rfl) rfl ?_
        exact o_f_X6_readOperands_b56 hR2 hK2 _ _ _ _ _ 
def f_X6_readOperands_b69 (x0 : Nat) (h : jh) : Option (Int32 × jh) :=
  cV h x0 4 (f_X6_nextToken x0 h) fun _ h18 =>
  gI h18 x0 4 4 fun v19 =>
  (if ¬ v19 = 3 then
  some (1, h18)
  else
  some (0, h18))
theorem o_f_X6_readOperands_b69 {X : jx} {b0 : Nat × Nat} (x0 : Nat) (h : jh) : jv_O X M_X6_readOperands b0 jeI 69 [some (.ref (x0)), none, none, none] [] h (f_X6_readOperands_b69 x0 h) := by
  unfold f_X6_readOperands_b69
  refine jv_aload_n (jv_dk t_X6_readOperands (k := 36) rfl) rfl rfl (Or.inr ⟨_, rfl⟩) ?_
  refine jv_callV (en' := jeV) (pv := jpV) (As := []) (S := []) (jv_dk t_X6_readOperands (k := 37) rfl) (fun _ => rfl) (Or.inl lk_X6_43) me_X6_nextToken mv_X6_nextToken ⟨by decide, by decide⟩ rfl rfl rfl (Nat.le_of_ble_eq_true rfl) (P_X6_nextToken X x0 h) (fun _ h18 => ?_)
  show jv_O X M_X6_readOperands _ jeI 73 [some (.ref (x0)), none, none, none] [] h18 _
  refine jv_aload_n (jv_dk t_X6_readOperands (k := 38) rfl) rfl rfl (Or.inr ⟨_, rfl⟩) ?_
  refine jv_gI (jv_dk t_X6_readOperands (k := 39) rfl) fl_X6_25 (fun v19 => ?_)
  refine jv_iconst (v := 3) (jv_dk t_X6_readOperands (k := 40) rfl) (by decide) ?_
  refine jv_icmp_ne (tgt := 85) (jv_dk t_X6_readOperands (k := 41) rfl) rfl (fun c20 => ?_) (fun c20 => ?_)
  · refine jv_iconst (v := 1) (jv_dk t_X6_readOperands (k := 44) rfl) (by decide) ?_
    exact jv_iret (ty := .int) (jv_dk t_X6_readOperands (k := 45) rfl) rfl rfl rfl
  · show jv_O _ _ _ _ 81 _ _ _ _
    refine jv_iconst (v := 0) (jv_dk t_X6_readOperands (k := 42) rfl) (by decide) ?_
    refine jv_goto (tgt := 86) (jv_dk t_X6_readOperands (k := 43) rfl) rfl ?_
    exact jv_iret (ty := .int) (jv_dk t_X6_readOperands (k := 45) rfl) rfl rfl rfl
def f_X6_readOperands (a0 : Nat) (a1 : Nat) (h : jh) : Option (Int32 × jh) :=
  jlp3 (f_X6_readOperands_h2 (fun y17 h16 =>
  f_X6_readOperands_b69 y17 h16)) jfu a0 a1 0 h
theorem P_X6_readOperands (X : jx) (a0 : Nat) (a1 : Nat) (h : jh) : jv_P X M_X6_readOperands jeI [.ref (a0), .ref (jv_ad X (a1))] h (f_X6_readOperands a0 a1 h) := by
  refine jv_P.of (by decide) rfl (by simp [Value.category]) (Nat.le_of_ble_eq_true rfl) ?_
  show jv_O X M_X6_readOperands (h.1, h.2.1) jeI 0 [some (.ref (a0)), some (.ref (jv_ad X (a1))), none, none] [] h (f_X6_readOperands a0 a1 h)
  unfold f_X6_readOperands
  refine jv_iconst (v := 0) (jv_dk t_X6_readOperands (k := 0) rfl) (by decide) ?_
  refine jv_istore_n (L' := [some (.ref (a0)), some (.ref (jv_ad X (a1))), some (.int (0)), none]) (jv_dk t_X6_readOperands (k := 1) rfl) rfl (Nat.le_of_ble_eq_true rfl) rfl ?_
  refine o_f_X6_readOperands_h2 (fun y17 h16 => ?_) _ _ _ _ 
  show jv_O X M_X6_readOperands _ jeI 69 [some (.ref (y17)), none, none, none] [] h16 _
  exact o_f_X6_readOperands_b69 _ _ 
def t0_X11_hasNumbersFree : List (Nat × Instr × Nat) := [(0, .iload_n 1, 1), (1, .istore_n 2, 1), (2, .iconst 0, 1), (3, .istore_n 3, 1), (4, .iload_n 3, 1), (5, .bipush 8, 2), (7, .if_icmp .ge 76, 3), (10, .iload_n 2, 1), (11, .iconst (-1), 1), (12, .if_icmp .eq 71, 3), (15, .iload_n 3, 1), (16, .ifCond .ne 20, 3), (19, .aload_n 0, 1), (20, .getfield 21, 3), (23, .getfield 128, 3), (26, .iload_n 2, 1), (27, .iaload, 1), (28, .iconst (-1), 1), (29, .if_icmp .ne 7, 3), (32, .iconst 1, 1), (33, .goto 4, 3), (36, .iconst 0, 1), (37, .istore 4, 2), (39, .iload 4, 2), (41, .ifCond .ne 24, 3), (44, .aload_n 0, 1), (45, .getfield 21, 3), (48, .iload_n 2, 1), (49, .aload_n 0, 1), (50, .getfield 12, 3), (53, .iload_n 2, 1), (54, .invokevirtual 183, 3), (57, .invokevirtual 186, 3), (60, .ifCond .ne 5, 3), (63, .iconst 0, 1), (64, .ireturn, 1), (65, .aload_n 0, 1), (66, .getfield 21, 3), (69, .getfield 52, 3), (72, .iload_n 2, 1), (73, .invokevirtual 178, 3), (76, .istore_n 2, 1), (77, .iinc 3 1, 3), (80, .goto (-76), 3), (83, .iconst 1, 1), (84, .ireturn, 1)]
theorem t_X11_hasNumbersFree : jv_dec cX11_hasNumbersFree t0_X11_hasNumbersFree = true := by decide +kernel
def M_X11_hasNumbersFree : jm := (yX11_hasNumbersFree, cX11_hasNumbersFree, 5, (some .boolean), 2, 45, [])
theorem lk_X11_178 : jv_lk RX11 178 M_X9_around := Or.inr ⟨"SpaceWarden", (jv_at 635 (by decide +kernel))⟩
theorem lk_X11_183 : jv_lk RX11 183 M_X5_numbersTaken := Or.inr ⟨"SpaceWarden", (jv_at 622 (by decide +kernel))⟩
set_option maxRecDepth 20000 in
theorem me_X5_numbersTaken : jv_me M_X5_numbersTaken 1 := ⟨(jv_in2 (List.mem_of_getElem? (i := 225) rfl)), (jv_at 164 (by decide +kernel)), ⟨by decide, by decide⟩, by decide +kernel⟩
theorem lk_X11_186 : jv_lk RX11 186 M_X4_nextNumber := Or.inr ⟨"SpaceWarden", (jv_at 630 (by decide +kernel))⟩
set_option maxRecDepth 20000 in
theorem me_X4_nextNumber : jv_me M_X4_nextNumber 2 := ⟨(jv_in2 (List.mem_of_getElem? (i := 233) rfl)), (jv_at 165 (by decide +kernel)), ⟨by decide, by decide⟩, by decide +kernel⟩
theorem mv_X4_nextNumber : jv_mv M_X4_nextNumber := ⟨(jv_at 632 (by decide +kernel)), (jv_at 19 (by decide +kernel))⟩
theorem mv_X5_numbersTaken : jv_mv M_X5_numbersTaken := ⟨(jv_at 624 (by decide +kernel)), (jv_at 17 (by decide +kernel))⟩
def f_X11_hasNumbersFree_b65 (R4 : Nat → Int32 → Int32 → jh → Option (Int32 × jh)) (K4 : jh → Option (Int32 × jh)) (x0 : Nat) (x2 : Int32) (x3 : Int32) (h : jh) : Option (Int32 × jh) :=
  gR h x0 9 1 fun v5 =>
  gR h v5 2 0 fun v6 =>
  cV h v6 7 (f_X9_around v6 x2 h) fun v7 h8 =>
  R4 x0 v7 (x3 + 1) h8
theorem o_f_X11_hasNumbersFree_b65 {X : jx} {b0 : Nat × Nat} {R4 : Nat → Int32 → Int32 → jh → Option (Int32 × jh)} {K4 : jh → Option (Int32 × jh)} (hR4 : ∀ (x0 : Nat) (x2 : Int32) (x3 : Int32) (h : jh), jv_O X M_X11_hasNumbersFree b0 jeI 4 [some (.ref (x0)), none, some (.int (x2)), some (.int (x3)), none] [] h (R4 x0 x2 x3 h)) (hK4 : ∀  (h : jh), jv_O X M_X11_hasNumbersFree b0 jeI 83 [none, none, none, none, none] [] h (K4  h)) (x0 : Nat) (x2 : Int32) (x3 : Int32) (h : jh) : jv_O X M_X11_hasNumbersFree b0 jeI 65 [some (.ref (x0)), none, some (.int (x2)), some (.int (x3)), none] [] h (f_X11_hasNumbersFree_b65 R4 K4 x0 x2 x3 h) := by
  unfold f_X11_hasNumbersFree_b65
  refine jv_aload_n (jv_dk t_X11_hasNumbersFree (k := 36) rfl) rfl rfl (Or.inr ⟨_, rfl⟩) ?_
  refine jv_gR (jv_dk t_X11_hasNumbersFree (k := 37) rfl) fl_X11_21 (fun v5 => ?_)
  refine jv_gR (jv_dk t_X11_hasNumbersFree (k := 38) rfl) fl_X11_52 (fun v6 => ?_)
  refine jv_iload_n (jv_dk t_X11_hasNumbersFree (k := 39) rfl) rfl rfl ?_
  refine jv_callV (en' := jeI) (pv := jpI) (As := [.int (x2)]) (S := []) (jv_dk t_X11_hasNumbersFree (k := 40) rfl) (fun _ => rfl) lk_X11_178 me_X9_around mv_X9_around ⟨by decide, by decide⟩ rfl rfl rfl (Nat.le_of_ble_eq_true rfl) (P_X9_around X v6 x2 h) (fun v7 h8 => ?_)
  show jv_O X M_X11_hasNumbersFree _ jeI 76 [some (.ref (x0)), none, some (.int (x2)), some (.int (x3)), none] [.int (v7)] h8 _
  refine jv_istore_n (L' := [some (.ref (x0)), none, some (.int (v7)), some (.int (x3)), none]) (jv_dk t_X11_hasNumbersFree (k := 41) rfl) rfl (Nat.le_of_ble_eq_true rfl) rfl ?_
  refine jv_iinc (v := 1) (L' := [some (.ref (x0)), none, some (.int (v7)), some (.int (x3 + 1)), none]) (jv_dk t_X11_hasNumbersFree (k := 42) rfl) rfl (by decide) rfl ?_
  refine jv_goto (tgt := 4) (jv_dk t_X11_hasNumbersFree (k := 43) rfl) rfl ?_
  exact hR4 _ _ _ _ 
def f_X11_hasNumbersFree_b37 (R4 : Nat → Int32 → Int32 → jh → Option (Int32 × jh)) (K4 : jh → Option (Int32 × jh)) (x0 : Nat) (x2 : Int32) (x3 : Int32) (s0 : Int32) (h : jh) : Option (Int32 × jh) :=
  (if ¬ s0 = 0 then
  f_X11_hasNumbersFree_b65 R4 K4 x0 x2 x3 h
  else
  gR h x0 9 1 fun v9 =>
  gR h x0 9 0 fun v10 =>
  cV h v10 3 (f_X5_numbersTaken v10 x2 h) fun v11 h12 =>
  cV h12 v9 2 (f_X4_nextNumber v9 x2 v11 h12) fun v13 h14 =>
  (if ¬ v13 = 0 then
  f_X11_hasNumbersFree_b65 R4 K4 x0 x2 x3 h14
  else
  some (0, h14)))
theorem o_f_X11_hasNumbersFree_b37 {X : jx} {b0 : Nat × Nat} {R4 : Nat → Int32 → Int32 → jh → Option (Int32 × jh)} {K4 : jh → Option (Int32 × jh)} (hR4 : ∀ (x0 : Nat) (x2 : Int32) (x3 : Int32) (h : jh), jv_O X M_X11_hasNumbersFree b0 jeI 4 [some (.ref (x0)), none, some (.int (x2)), some (.int (x3)), none] [] h (R4 x0 x2 x3 h)) (hK4 : ∀  (h : jh), jv_O X M_X11_hasNumbersFree b0 jeI 83 [none, none, none, none, none] [] h (K4  h)) (x0 : Nat) (x2 : Int32) (x3 : Int32) (s0 : Int32) (h : jh) : jv_O X M_X11_hasNumbersFree b0 jeI 37 [some (.ref (x0)), none, some (.int (x2)), some (.int (x3)), none] [.int (s0)] h (f_X11_hasNumbersFree_b37 R4 K4 x0 x2 x3 s0 h) := by
  unfold f_X11_hasNumbersFree_b37
  refine jv_istore (L' := [some (.ref (x0)), none, some (.int (x2)), some (.int (x3)), some (.int (s0))]) (jv_dk t_X11_hasNumbersFree (k := 22) rfl) (Nat.le_of_ble_eq_true rfl) rfl ?_
  refine jv_iload (jv_dk t_X11_hasNumbersFree (k := 23) rfl) rfl ?_
  refine jv_if_ne (tgt := 65) (jv_dk t_X11_hasNumbersFree (k := 24) rfl) rfl (fun c4 => ?_) (fun c4 => ?_)
  · refine jv_le_row (jv_le_s (jv_le_n (jv_le_s (jv_le_s (jv_le_n (jv_le_nil)))))) ?_
    exact o_f_X11_hasNumbersFree_b65 hR4 hK4 _ _ _ _ 
  · show jv_O _ _ _ _ 44 _ _ _ _
    refine jv_aload_n (jv_dk t_X11_hasNumbersFree (k := 25) rfl) rfl rfl (Or.inr ⟨_, rfl⟩) ?_
    refine jv_gR (jv_dk t_X11_hasNumbersFree (k := 26) rfl) fl_X11_21 (fun v9 => ?_)
    refine jv_iload_n (jv_dk t_X11_hasNumbersFree (k := 27) rfl) rfl rfl ?_
    refine jv_aload_n (jv_dk t_X11_hasNumbersFree (k := 28) rfl) rfl rfl (Or.inr ⟨_, rfl⟩) ?_
    refine jv_gR (jv_dk t_X11_hasNumbersFree (k := 29) rfl) fl_X11_12 (fun v10 => ?_)
    refine jv_iload_n (jv_dk t_X11_hasNumbersFree (k := 30) rfl) rfl rfl ?_
    refine jv_callV (en' := jeI) (pv := jpI) (As := [.int (x2)]) (S := [.int (x2), .ref (v9)]) (jv_dk t_X11_hasNumbersFree (k := 31) rfl) (fun _ => rfl) lk_X11_183 me_X5_numbersTaken mv_X5_numbersTaken ⟨by decide, by decide⟩ rfl rfl rfl (Nat.le_of_ble_eq_true rfl) (P_X5_numbersTaken X v10 x2 h) (fun v11 h12 => ?_)
    show jv_O X M_X11_hasNumbersFree _ jeI 57 [some (.ref (x0)), none, some (.int (x2)), some (.int (x3)), some (.int (s0))] [.int (v11), .int (x2), .ref (v9)] h12 _
    refine jv_callV (en' := jeI) (pv := jpI) (As := [.int (x2), .int (v11)]) (S := []) (jv_dk t_X11_hasNumbersFree (k := 32) rfl) (fun _ => rfl) lk_X11_186 me_X4_nextNumber mv_X4_nextNumber ⟨by decide, by decide⟩ rfl rfl rfl (Nat.le_of_ble_eq_true rfl) (P_X4_nextNumber X v9 x2 v11 h12) (fun v13 h14 => ?_)
    show jv_O X M_X11_hasNumbersFree _ jeI 60 [some (.ref (x0)), none, some (.int (x2)), some (.int (x3)), some (.int (s0))] [.int (v13)] h14 _
    refine jv_if_ne (tgt := 65) (jv_dk t_X11_hasNumbersFree (k := 33) rfl) rfl (fun c15 => ?_) (fun c15 => ?_)
    · refine jv_le_row (jv_le_s (jv_le_n (jv_le_s (jv_le_s (jv_le_n (jv_le_nil)))))) ?_
      exact o_f_X11_hasNumbersFree_b65 hR4 hK4 _ _ _ _ 
    · show jv_O _ _ _ _ 63 _ _ _ _
      refine jv_iconst (v := 0) (jv_dk t_X11_hasNumbersFree (k := 34) rfl) (by decide) ?_
      exact jv_iret (ty := .boolean) (jv_dk t_X11_hasNumbersFree (k := 35) rfl) rfl rfl rfl
def f_X11_hasNumbersFree_h4 (K4 : jh → Option (Int32 × jh)) (R4 : Nat → Int32 → Int32 → jh → Option (Int32 × jh)) (x0 : Nat) (x2 : Int32) (x3 : Int32) (h : jh) : Option (Int32 × jh) :=
  (if 8 ≤ x3 then
  K4  h
  else
  (if x2 = (-1) then
  K4  h
  else
  (if ¬ x3 = 0 then
  f_X11_hasNumbersFree_b37 R4 K4 x0 x2 x3 0 h
  else
  gR h x0 9 1 fun v16 =>
  gR h v16 2 3 fun v17 =>
  aI h v17 x2 fun v18 =>
  (if ¬ v18 = (-1) then
  f_X11_hasNumbersFree_b37 R4 K4 x0 x2 x3 0 h
  else
  f_X11_hasNumbersFree_b37 R4 K4 x0 x2 x3 1 h))))
theorem o_f_X11_hasNumbersFree_h4 {X : jx} {b0 : Nat × Nat} {K4 : jh → Option (Int32 × jh)} (hK4 : ∀  (h : jh), jv_O X M_X11_hasNumbersFree b0 jeI 83 [none, none, none, none, none] [] h (K4  h)) : ∀ (x0 : Nat) (x2 : Int32) (x3 : Int32) (h : jh), jv_O X M_X11_hasNumbersFree b0 jeI 4 [some (.ref (x0)), none, some (.int (x2)), some (.int (x3)), none] [] h (jlp3 (f_X11_hasNumbersFree_h4 K4) jfu x0 x2 x3 h) := by
  refine jlp3_ok (P := fun x0 x2 x3 h o => jv_O X M_X11_hasNumbersFree b0 jeI 4 [some (.ref (x0)), none, some (.int (x2)), some (.int (x3)), none] [] h o) (fun R4 hR4 => ?_) (fun _ _ _ _  => jv_none rfl) jfu
  intro x0 x2 x3 h
  unfold f_X11_hasNumbersFree_h4
  refine jv_iload_n (jv_dk t_X11_hasNumbersFree (k := 4) rfl) rfl rfl ?_
  refine jv_bipush (v := 8) (jv_dk t_X11_hasNumbersFree (k := 5) rfl) (by decide) ?_
  refine jv_icmp_ge (tgt := 83) (jv_dk t_X11_hasNumbersFree (k := 6) rfl) rfl (fun c1 => ?_) (fun c1 => ?_)
  · refine jv_le_row (jv_le_n (jv_le_n (jv_le_n (jv_le_n (jv_le_n (jv_le_nil)))))) ?_
    exact hK4 _ 
  · show jv_O _ _ _ _ 10 _ _ _ _
    refine jv_iload_n (jv_dk t_X11_hasNumbersFree (k := 7) rfl) rfl rfl ?_
    refine jv_iconst (v := (-1)) (jv_dk t_X11_hasNumbersFree (k := 8) rfl) (by decide) ?_
    refine jv_icmp_eq (tgt := 83) (jv_dk t_X11_hasNumbersFree (k := 9) rfl) rfl (fun c2 => ?_) (fun c2 => ?_)
    · refine jv_le_row (jv_le_n (jv_le_n (jv_le_n (jv_le_n (jv_le_n (jv_le_nil)))))) ?_
      exact hK4 _ 
    · show jv_O _ _ _ _ 15 _ _ _ _
      refine jv_iload_n (jv_dk t_X11_hasNumbersFree (k := 10) rfl) rfl rfl ?_
      refine jv_if_ne (tgt := 36) (jv_dk t_X11_hasNumbersFree (k := 11) rfl) rfl (fun c3 => ?_) (fun c3 => ?_)
      · refine jv_iconst (v := 0) (jv_dk t_X11_hasNumbersFree (k := 21) rfl) (by decide) ?_
        exact o_f_X11_hasNumbersFree_b37 hR4 hK4 _ _ _ _ _ 
      · show jv_O _ _ _ _ 19 _ _ _ _
        refine jv_aload_n (jv_dk t_X11_hasNumbersFree (k := 12) rfl) rfl rfl (Or.inr ⟨_, rfl⟩) ?_
        refine jv_gR (jv_dk t_X11_hasNumbersFree (k := 13) rfl) fl_X11_21 (fun v16 => ?_)
        refine jv_gR (jv_dk t_X11_hasNumbersFree (k := 14) rfl) fl_X11_128 (fun v17 => ?_)
        refine jv_iload_n (jv_dk t_X11_hasNumbersFree (k := 15) rfl) rfl rfl ?_
        refine jv_iaload (jv_dk t_X11_hasNumbersFree (k := 16) rfl) (fun v18 => ?_)
        refine jv_iconst (v := (-1)) (jv_dk t_X11_hasNumbersFree (k := 17) rfl) (by decide) ?_
        refine jv_icmp_ne (tgt := 36) (jv_dk t_X11_hasNumbersFree (k := 18) rfl) rfl (fun c19 => ?_) (fun c19 => ?_)
        · refine jv_iconst (v := 0) (jv_dk t_X11_hasNumbersFree (k := 21) rfl) (by decide) ?_
          exact o_f_X11_hasNumbersFree_b37 hR4 hK4 _ _ _ _ _ 
        · show jv_O _ _ _ _ 32 _ _ _ _
          refine jv_iconst (v := 1) (jv_dk t_X11_hasNumbersFree (k := 19) rfl) (by decide) ?_
          refine jv_goto (tgt := 37) (jv_dk t_X11_hasNumbersFree (k := 20) rfl) rfl ?_
          exact o_f_X11_hasNumbersFree_b37 hR4 hK4 _ _ _ _ _ 
def f_X11_hasNumbersFree (a0 : Nat) (a1 : Int32) (h : jh) : Option (Int32 × jh) :=
  jlp3 (f_X11_hasNumbersFree_h4 (fun  h20 =>
  some (1, h20))) jfu a0 a1 0 h
theorem P_X11_hasNumbersFree (X : jx) (a0 : Nat) (a1 : Int32) (h : jh) : jv_P X M_X11_hasNumbersFree jeI [.ref (a0), .int (a1)] h (f_X11_hasNumbersFree a0 a1 h) := by
  refine jv_P.of (by decide) rfl (by simp [Value.category]) (Nat.le_of_ble_eq_true rfl) ?_
  show jv_O X M_X11_hasNumbersFree (h.1, h.2.1) jeI 0 [some (.ref (a0)), some (.int (a1)), none, none, none] [] h (f_X11_hasNumbersFree a0 a1 h)
  unfold f_X11_hasNumbersFree
  refine jv_iload_n (jv_dk t_X11_hasNumbersFree (k := 0) rfl) rfl rfl ?_
  refine jv_istore_n (L' := [some (.ref (a0)), some (.int (a1)), some (.int (a1)), none, none]) (jv_dk t_X11_hasNumbersFree (k := 1) rfl) rfl (Nat.le_of_ble_eq_true rfl) rfl ?_
  refine jv_iconst (v := 0) (jv_dk t_X11_hasNumbersFree (k := 2) rfl) (by decide) ?_
  refine jv_istore_n (L' := [some (.ref (a0)), some (.int (a1)), some (.int (a1)), some (.int (0)), none]) (jv_dk t_X11_hasNumbersFree (k := 3) rfl) rfl (Nat.le_of_ble_eq_true rfl) rfl ?_
  refine jv_le_row (jv_le_s (jv_le_n (jv_le_s (jv_le_s (jv_le_n (jv_le_nil)))))) ?_
  refine o_f_X11_hasNumbersFree_h4 (fun  h20 => ?_) _ _ _ _ 
  show jv_O X M_X11_hasNumbersFree _ jeI 83 [none, none, none, none, none] [] h20 _
  refine jv_iconst (v := 1) (jv_dk t_X11_hasNumbersFree (k := 44) rfl) (by decide) ?_
  exact jv_iret (ty := .boolean) (jv_dk t_X11_hasNumbersFree (k := 45) rfl) rfl rfl rfl
def t0_X11_giveNumber : List (Nat × Instr × Nat) := [(0, .iconst 1, 1), (1, .istore_n 3, 1), (2, .iload_n 2, 1), (3, .aload_n 0, 1), (4, .getfield 12, 3), (7, .getfield 131, 3), (10, .iload_n 1, 1), (11, .iaload, 1), (12, .if_icmp .ne 29, 3), (15, .aload_n 0, 1), (16, .getfield 21, 3), (19, .getfield 128, 3), (22, .iload_n 2, 1), (23, .iaload, 1), (24, .iconst (-1), 1), (25, .if_icmp .ne 16, 3), (28, .aload_n 0, 1), (29, .getfield 21, 3), (32, .getfield 128, 3), (35, .iload_n 2, 1), (36, .iload_n 1, 1), (37, .iastore, 1), (38, .goto 20, 3), (41, .aload_n 0, 1), (42, .getfield 21, 3), (45, .iload_n 2, 1), (46, .aload_n 0, 1), (47, .getfield 12, 3), (50, .iload_n 2, 1), (51, .invokevirtual 183, 3), (54, .invokevirtual 186, 3), (57, .istore_n 3, 1), (58, .aload_n 0, 1), (59, .getfield 12, 3), (62, .getfield 189, 3), (65, .iload_n 1, 1), (66, .bipush 8, 2), (68, .imul, 1), (69, .iload_n 2, 1), (70, .iadd, 1), (71, .iload_n 3, 1), (72, .iastore, 1), (73, .aload_n 0, 1), (74, .getfield 21, 3), (77, .getfield 192, 3), (80, .iload_n 2, 1), (81, .iload_n 3, 1), (82, .iastore, 1), (83, .return_, 1)]
theorem t_X11_giveNumber : jv_dec cX11_giveNumber t0_X11_giveNumber = true := by decide +kernel
def M_X11_giveNumber : jm := (yX11_giveNumber, cX11_giveNumber, 4, none, 2, 45, [])
theorem fl_X11_189 : jv_F RX11 189 3 6 RX5 TX5 9 := ⟨rfl, by decide, inX5, Or.inr ⟨"SpaceWarden", (jv_at 236 (by decide +kernel))⟩⟩
theorem fl_X11_192 : jv_F RX11 192 2 2 RX4 TX4 4 := ⟨rfl, by decide, inX4, Or.inr ⟨"SpaceWarden", (jv_at 291 (by decide +kernel))⟩⟩
def f_X11_giveNumber_b58 (x0 : Nat) (x1 : Int32) (x2 : Int32) (x3 : Int32) (h : jh) : Option (Unit × jh) :=
  gR h x0 9 0 fun v11 =>
  gR h v11 3 6 fun v12 =>
  sI h v12 ((x1 * 8) + x2) x3 fun h13 =>
  gR h13 x0 9 1 fun v14 =>
  gR h13 v14 2 2 fun v15 =>
  sI h13 v15 x2 x3 fun h16 =>
  some ((), h16)
theorem o_f_X11_giveNumber_b58 {X : jx} {b0 : Nat × Nat} (x0 : Nat) (x1 : Int32) (x2 : Int32) (x3 : Int32) (h : jh) : jv_O X M_X11_giveNumber b0 jeV 58 [some (.ref (x0)), some (.int (x1)), some (.int (x2)), some (.int (x3))] [] h (f_X11_giveNumber_b58 x0 x1 x2 x3 h) := by
  unfold f_X11_giveNumber_b58
  refine jv_aload_n (jv_dk t_X11_giveNumber (k := 32) rfl) rfl rfl (Or.inr ⟨_, rfl⟩) ?_
  refine jv_gR (jv_dk t_X11_giveNumber (k := 33) rfl) fl_X11_12 (fun v11 => ?_)
  refine jv_gR (jv_dk t_X11_giveNumber (k := 34) rfl) fl_X11_189 (fun v12 => ?_)
  refine jv_iload_n (jv_dk t_X11_giveNumber (k := 35) rfl) rfl rfl ?_
  refine jv_bipush (v := 8) (jv_dk t_X11_giveNumber (k := 36) rfl) (by decide) ?_
  refine jv_imul (jv_dk t_X11_giveNumber (k := 37) rfl) ?_
  refine jv_iload_n (jv_dk t_X11_giveNumber (k := 38) rfl) rfl rfl ?_
  refine jv_iadd (jv_dk t_X11_giveNumber (k := 39) rfl) ?_
  refine jv_iload_n (jv_dk t_X11_giveNumber (k := 40) rfl) rfl rfl ?_
  refine jv_iastore (jv_dk t_X11_giveNumber (k := 41) rfl) (fun h13 => ?_)
  refine jv_aload_n (jv_dk t_X11_giveNumber (k := 42) rfl) rfl rfl (Or.inr ⟨_, rfl⟩) ?_
  refine jv_gR (jv_dk t_X11_giveNumber (k := 43) rfl) fl_X11_21 (fun v14 => ?_)
  refine jv_gR (jv_dk t_X11_giveNumber (k := 44) rfl) fl_X11_192 (fun v15 => ?_)
  refine jv_iload_n (jv_dk t_X11_giveNumber (k := 45) rfl) rfl rfl ?_
  refine jv_iload_n (jv_dk t_X11_giveNumber (k := 46) rfl) rfl rfl ?_
  refine jv_iastore (jv_dk t_X11_giveNumber (k := 47) rfl) (fun h16 => ?_)
  exact jv_vret (jv_dk t_X11_giveNumber (k := 48) rfl) rfl rfl
def f_X11_giveNumber_b41 (x0 : Nat) (x1 : Int32) (x2 : Int32) (h : jh) : Option (Unit × jh) :=
  gR h x0 9 1 fun v5 =>
  gR h x0 9 0 fun v6 =>
  cV h v6 3 (f_X5_numbersTaken v6 x2 h) fun v7 h8 =>
  cV h8 v5 2 (f_X4_nextNumber v5 x2 v7 h8) fun v9 h10 =>
  f_X11_giveNumber_b58 x0 x1 x2 v9 h10
theorem o_f_X11_giveNumber_b41 {X : jx} {b0 : Nat × Nat} (x0 : Nat) (x1 : Int32) (x2 : Int32) (h : jh) : jv_O X M_X11_giveNumber b0 jeV 41 [some (.ref (x0)), some (.int (x1)), some (.int (x2)), none] [] h (f_X11_giveNumber_b41 x0 x1 x2 h) := by
  unfold f_X11_giveNumber_b41
  refine jv_aload_n (jv_dk t_X11_giveNumber (k := 23) rfl) rfl rfl (Or.inr ⟨_, rfl⟩) ?_
  refine jv_gR (jv_dk t_X11_giveNumber (k := 24) rfl) fl_X11_21 (fun v5 => ?_)
  refine jv_iload_n (jv_dk t_X11_giveNumber (k := 25) rfl) rfl rfl ?_
  refine jv_aload_n (jv_dk t_X11_giveNumber (k := 26) rfl) rfl rfl (Or.inr ⟨_, rfl⟩) ?_
  refine jv_gR (jv_dk t_X11_giveNumber (k := 27) rfl) fl_X11_12 (fun v6 => ?_)
  refine jv_iload_n (jv_dk t_X11_giveNumber (k := 28) rfl) rfl rfl ?_
  refine jv_callV (en' := jeI) (pv := jpI) (As := [.int (x2)]) (S := [.int (x2), .ref (v5)]) (jv_dk t_X11_giveNumber (k := 29) rfl) (fun _ => rfl) lk_X11_183 me_X5_numbersTaken mv_X5_numbersTaken ⟨by decide, by decide⟩ rfl rfl rfl (Nat.le_of_ble_eq_true rfl) (P_X5_numbersTaken X v6 x2 h) (fun v7 h8 => ?_)
  show jv_O X M_X11_giveNumber _ jeV 54 [some (.ref (x0)), some (.int (x1)), some (.int (x2)), none] [.int (v7), .int (x2), .ref (v5)] h8 _
  refine jv_callV (en' := jeI) (pv := jpI) (As := [.int (x2), .int (v7)]) (S := []) (jv_dk t_X11_giveNumber (k := 30) rfl) (fun _ => rfl) lk_X11_186 me_X4_nextNumber mv_X4_nextNumber ⟨by decide, by decide⟩ rfl rfl rfl (Nat.le_of_ble_eq_true rfl) (P_X4_nextNumber X v5 x2 v7 h8) (fun v9 h10 => ?_)
  show jv_O X M_X11_giveNumber _ jeV 57 [some (.ref (x0)), some (.int (x1)), some (.int (x2)), none] [.int (v9)] h10 _
  refine jv_istore_n (L' := [some (.ref (x0)), some (.int (x1)), some (.int (x2)), some (.int (v9))]) (jv_dk t_X11_giveNumber (k := 31) rfl) rfl (Nat.le_of_ble_eq_true rfl) rfl ?_
  exact o_f_X11_giveNumber_b58 _ _ _ _ _ 
def f_X11_giveNumber (a0 : Nat) (a1 : Int32) (a2 : Int32) (h : jh) : Option (Unit × jh) :=
  gR h a0 9 0 fun v1 =>
  gR h v1 3 1 fun v2 =>
  aI h v2 a1 fun v3 =>
  (if ¬ a2 = v3 then
  f_X11_giveNumber_b41 a0 a1 a2 h
  else
  gR h a0 9 1 fun v17 =>
  gR h v17 2 3 fun v18 =>
  aI h v18 a2 fun v19 =>
  (if ¬ v19 = (-1) then
  f_X11_giveNumber_b41 a0 a1 a2 h
  else
  gR h a0 9 1 fun v21 =>
  gR h v21 2 3 fun v22 =>
  sI h v22 a2 a1 fun h23 =>
  f_X11_giveNumber_b58 a0 a1 a2 1 h23))
theorem P_X11_giveNumber (X : jx) (a0 : Nat) (a1 : Int32) (a2 : Int32) (h : jh) : jv_P X M_X11_giveNumber jeV [.ref (a0), .int (a1), .int (a2)] h (f_X11_giveNumber a0 a1 a2 h) := by
  refine jv_P.of (by decide) rfl (by simp [Value.category]) (Nat.le_of_ble_eq_true rfl) ?_
  show jv_O X M_X11_giveNumber (h.1, h.2.1) jeV 0 [some (.ref (a0)), some (.int (a1)), some (.int (a2)), none] [] h (f_X11_giveNumber a0 a1 a2 h)
  unfold f_X11_giveNumber
  refine jv_iconst (v := 1) (jv_dk t_X11_giveNumber (k := 0) rfl) (by decide) ?_
  refine jv_istore_n (L' := [some (.ref (a0)), some (.int (a1)), some (.int (a2)), some (.int (1))]) (jv_dk t_X11_giveNumber (k := 1) rfl) rfl (Nat.le_of_ble_eq_true rfl) rfl ?_
  refine jv_iload_n (jv_dk t_X11_giveNumber (k := 2) rfl) rfl rfl ?_
  refine jv_aload_n (jv_dk t_X11_giveNumber (k := 3) rfl) rfl rfl (Or.inr ⟨_, rfl⟩) ?_
  refine jv_gR (jv_dk t_X11_giveNumber (k := 4) rfl) fl_X11_12 (fun v1 => ?_)
  refine jv_gR (jv_dk t_X11_giveNumber (k := 5) rfl) fl_X11_131 (fun v2 => ?_)
  refine jv_iload_n (jv_dk t_X11_giveNumber (k := 6) rfl) rfl rfl ?_
  refine jv_iaload (jv_dk t_X11_giveNumber (k := 7) rfl) (fun v3 => ?_)
  refine jv_icmp_ne (tgt := 41) (jv_dk t_X11_giveNumber (k := 8) rfl) rfl (fun c4 => ?_) (fun c4 => ?_)
  · refine jv_le_row (jv_le_s (jv_le_s (jv_le_s (jv_le_n (jv_le_nil))))) ?_
    exact o_f_X11_giveNumber_b41 _ _ _ _ 
  · show jv_O _ _ _ _ 15 _ _ _ _
    refine jv_aload_n (jv_dk t_X11_giveNumber (k := 9) rfl) rfl rfl (Or.inr ⟨_, rfl⟩) ?_
    refine jv_gR (jv_dk t_X11_giveNumber (k := 10) rfl) fl_X11_21 (fun v17 => ?_)
    refine jv_gR (jv_dk t_X11_giveNumber (k := 11) rfl) fl_X11_128 (fun v18 => ?_)
    refine jv_iload_n (jv_dk t_X11_giveNumber (k := 12) rfl) rfl rfl ?_
    refine jv_iaload (jv_dk t_X11_giveNumber (k := 13) rfl) (fun v19 => ?_)
    refine jv_iconst (v := (-1)) (jv_dk t_X11_giveNumber (k := 14) rfl) (by decide) ?_
    refine jv_icmp_ne (tgt := 41) (jv_dk t_X11_giveNumber (k := 15) rfl) rfl (fun c20 => ?_) (fun c20 => ?_)
    · refine jv_le_row (jv_le_s (jv_le_s (jv_le_s (jv_le_n (jv_le_nil))))) ?_
      exact o_f_X11_giveNumber_b41 _ _ _ _ 
    · show jv_O _ _ _ _ 28 _ _ _ _
      refine jv_aload_n (jv_dk t_X11_giveNumber (k := 16) rfl) rfl rfl (Or.inr ⟨_, rfl⟩) ?_
      refine jv_gR (jv_dk t_X11_giveNumber (k := 17) rfl) fl_X11_21 (fun v21 => ?_)
      refine jv_gR (jv_dk t_X11_giveNumber (k := 18) rfl) fl_X11_128 (fun v22 => ?_)
      refine jv_iload_n (jv_dk t_X11_giveNumber (k := 19) rfl) rfl rfl ?_
      refine jv_iload_n (jv_dk t_X11_giveNumber (k := 20) rfl) rfl rfl ?_
      refine jv_iastore (jv_dk t_X11_giveNumber (k := 21) rfl) (fun h23 => ?_)
      refine jv_goto (tgt := 58) (jv_dk t_X11_giveNumber (k := 22) rfl) rfl ?_
      exact o_f_X11_giveNumber_b58 _ _ _ _ _ 
def t0_X11_bear : List (Nat × Instr × Nat) := [(0, .aload_n 0, 1), (1, .getfield 12, 3), (4, .invokevirtual 165, 3), (7, .istore_n 2, 1), (8, .aload_n 0, 1), (9, .getfield 12, 3), (12, .getfield 159, 3), (15, .iload_n 1, 1), (16, .iaload, 1), (17, .istore_n 3, 1), (18, .iload_n 2, 1), (19, .iconst (-1), 1), (20, .if_icmp .eq 22, 3), (23, .aload_n 0, 1), (24, .getfield 21, 3), (27, .iload_n 3, 1), (28, .invokevirtual 162, 3), (31, .ifCond .ne 11, 3), (34, .aload_n 0, 1), (35, .iload_n 3, 1), (36, .invokevirtual 168, 3), (39, .ifCond .ne 5, 3), (42, .iconst (-1), 1), (43, .ireturn, 1), (44, .aload_n 0, 1), (45, .getfield 12, 3), (48, .iload_n 2, 1), (49, .iload_n 1, 1), (50, .invokevirtual 171, 3), (53, .iload_n 3, 1), (54, .istore 4, 2), (56, .iconst 0, 1), (57, .istore 5, 2), (59, .iload 5, 2), (61, .bipush 8, 2), (63, .if_icmp .ge 36, 3), (66, .iload 4, 2), (68, .iconst (-1), 1), (69, .if_icmp .eq 30, 3), (72, .aload_n 0, 1), (73, .iload_n 2, 1), (74, .iload 4, 2), (76, .invokevirtual 175, 3), (79, .aload_n 0, 1), (80, .getfield 21, 3), (83, .getfield 52, 3), (86, .iload 4, 2), (88, .invokevirtual 178, 3), (91, .istore 4, 2), (93, .iinc 5 1, 3), (96, .goto (-37), 3), (99, .iload_n 2, 1), (100, .ireturn, 1)]
theorem t_X11_bear : jv_dec cX11_bear t0_X11_bear = true := by decide +kernel
def M_X11_bear : jm := (yX11_bear, cX11_bear, 6, (some .int), 3, 69, [])
theorem lk_X11_165 : jv_lk RX11 165 M_X5_leastFree := Or.inr ⟨"SpaceWarden", (jv_at 606 (by decide +kernel))⟩
set_option maxRecDepth 20000 in
theorem me_X5_leastFree : jv_me M_X5_leastFree 0 := ⟨(jv_in2 (List.mem_of_getElem? (i := 209) rfl)), (jv_at 164 (by decide +kernel)), ⟨by decide, by decide⟩, by decide +kernel⟩
theorem fl_X11_159 : jv_F RX11 159 3 4 RX5 TX5 9 := ⟨rfl, by decide, inX5, Or.inr ⟨"SpaceWarden", (jv_at 230 (by decide +kernel))⟩⟩
theorem lk_X11_162 : jv_lk RX11 162 M_X4_isDead := Or.inr ⟨"SpaceWarden", (jv_at 610 (by decide +kernel))⟩
theorem lk_X11_168 : Cond.methodLink RX11 168 M_X11_hasNumbersFree.1 ∈ lw_tbl := (jv_at 618 (by decide +kernel))
set_option maxRecDepth 20000 in
theorem me_X11_hasNumbersFree : jv_me M_X11_hasNumbersFree 1 := ⟨(jv_in2 (List.mem_of_getElem? (i := 221) rfl)), (jv_at 163 (by decide +kernel)), ⟨by decide, by decide⟩, by decide +kernel⟩
theorem lk_X11_171 : jv_lk RX11 171 M_X5_add := Or.inr ⟨"SpaceWarden", (jv_at 639 (by decide +kernel))⟩
set_option maxRecDepth 20000 in
theorem me_X5_add : jv_me M_X5_add 2 := ⟨(jv_in3 (List.mem_of_getElem? (i := 2) rfl)), (jv_at 164 (by decide +kernel)), ⟨by decide, by decide⟩, by decide +kernel⟩
theorem lk_X11_175 : Cond.methodLink RX11 175 M_X11_giveNumber.1 ∈ lw_tbl := (jv_at 651 (by decide +kernel))
set_option maxRecDepth 20000 in
theorem me_X11_giveNumber : jv_me M_X11_giveNumber 2 := ⟨(jv_in3 (List.mem_of_getElem? (i := 14) rfl)), (jv_at 163 (by decide +kernel)), ⟨by decide, by decide⟩, by decide +kernel⟩
theorem mv_X11_giveNumber : jv_mv M_X11_giveNumber := ⟨(jv_at 653 (by decide +kernel)), (jv_at 24 (by decide +kernel))⟩
theorem mv_X5_add : jv_mv M_X5_add := ⟨(jv_at 641 (by decide +kernel)), (jv_at 21 (by decide +kernel))⟩
theorem mv_X11_hasNumbersFree : jv_mv M_X11_hasNumbersFree := ⟨(jv_at 620 (by decide +kernel)), (jv_at 16 (by decide +kernel))⟩
theorem mv_X5_leastFree : jv_mv M_X5_leastFree := ⟨(jv_at 608 (by decide +kernel)), (jv_at 13 (by decide +kernel))⟩
def f_X11_bear_h59 (K59 : Int32 → jh → Option (Int32 × jh)) (R59 : Nat → Int32 → Int32 → Int32 → jh → Option (Int32 × jh)) (x0 : Nat) (x2 : Int32) (x4 : Int32) (x5 : Int32) (h : jh) : Option (Int32 × jh) :=
  (if 8 ≤ x5 then
  K59 x2 h
  else
  (if x4 = (-1) then
  K59 x2 h
  else
  cV h x0 9 (f_X11_giveNumber x0 x2 x4 h) fun _ h19 =>
  gR h19 x0 9 1 fun v20 =>
  gR h19 v20 2 0 fun v21 =>
  cV h19 v21 7 (f_X9_around v21 x4 h19) fun v22 h23 =>
  R59 x0 x2 v22 (x5 + 1) h23))
theorem o_f_X11_bear_h59 {X : jx} {b0 : Nat × Nat} {K59 : Int32 → jh → Option (Int32 × jh)} (hK59 : ∀ (x2 : Int32) (h : jh), jv_O X M_X11_bear b0 jeI 99 [none, none, some (.int (x2)), none, none, none] [] h (K59 x2 h)) : ∀ (x0 : Nat) (x2 : Int32) (x4 : Int32) (x5 : Int32) (h : jh), jv_O X M_X11_bear b0 jeI 59 [some (.ref (x0)), none, some (.int (x2)), none, some (.int (x4)), some (.int (x5))] [] h (jlp4 (f_X11_bear_h59 K59) jfu x0 x2 x4 x5 h) := by
  refine jlp4_ok (P := fun x0 x2 x4 x5 h o => jv_O X M_X11_bear b0 jeI 59 [some (.ref (x0)), none, some (.int (x2)), none, some (.int (x4)), some (.int (x5))] [] h o) (fun R59 hR59 => ?_) (fun _ _ _ _ _  => jv_none rfl) jfu
  intro x0 x2 x4 x5 h
  unfold f_X11_bear_h59
  refine jv_iload (jv_dk t_X11_bear (k := 33) rfl) rfl ?_
  refine jv_bipush (v := 8) (jv_dk t_X11_bear (k := 34) rfl) (by decide) ?_
  refine jv_icmp_ge (tgt := 99) (jv_dk t_X11_bear (k := 35) rfl) rfl (fun c17 => ?_) (fun c17 => ?_)
  · refine jv_le_row (jv_le_n (jv_le_n (jv_le_s (jv_le_n (jv_le_n (jv_le_n (jv_le_nil))))))) ?_
    exact hK59 _ _ 
  · show jv_O _ _ _ _ 66 _ _ _ _
    refine jv_iload (jv_dk t_X11_bear (k := 36) rfl) rfl ?_
    refine jv_iconst (v := (-1)) (jv_dk t_X11_bear (k := 37) rfl) (by decide) ?_
    refine jv_icmp_eq (tgt := 99) (jv_dk t_X11_bear (k := 38) rfl) rfl (fun c18 => ?_) (fun c18 => ?_)
    · refine jv_le_row (jv_le_n (jv_le_n (jv_le_s (jv_le_n (jv_le_n (jv_le_n (jv_le_nil))))))) ?_
      exact hK59 _ _ 
    · show jv_O _ _ _ _ 72 _ _ _ _
      refine jv_aload_n (jv_dk t_X11_bear (k := 39) rfl) rfl rfl (Or.inr ⟨_, rfl⟩) ?_
      refine jv_iload_n (jv_dk t_X11_bear (k := 40) rfl) rfl rfl ?_
      refine jv_iload (jv_dk t_X11_bear (k := 41) rfl) rfl ?_
      refine jv_callV (en' := jeV) (pv := jpV) (As := [.int (x2), .int (x4)]) (S := []) (jv_dk t_X11_bear (k := 42) rfl) (fun _ => rfl) (Or.inl lk_X11_175) me_X11_giveNumber mv_X11_giveNumber ⟨by decide, by decide⟩ rfl rfl rfl (Nat.le_of_ble_eq_true rfl) (P_X11_giveNumber X x0 x2 x4 h) (fun _ h19 => ?_)
      show jv_O X M_X11_bear _ jeI 79 [some (.ref (x0)), none, some (.int (x2)), none, some (.int (x4)), some (.int (x5))] [] h19 _
      refine jv_aload_n (jv_dk t_X11_bear (k := 43) rfl) rfl rfl (Or.inr ⟨_, rfl⟩) ?_
      refine jv_gR (jv_dk t_X11_bear (k := 44) rfl) fl_X11_21 (fun v20 => ?_)
      refine jv_gR (jv_dk t_X11_bear (k := 45) rfl) fl_X11_52 (fun v21 => ?_)
      refine jv_iload (jv_dk t_X11_bear (k := 46) rfl) rfl ?_
      refine jv_callV (en' := jeI) (pv := jpI) (As := [.int (x4)]) (S := []) (jv_dk t_X11_bear (k := 47) rfl) (fun _ => rfl) lk_X11_178 me_X9_around mv_X9_around ⟨by decide, by decide⟩ rfl rfl rfl (Nat.le_of_ble_eq_true rfl) (P_X9_around X v21 x4 h19) (fun v22 h23 => ?_)
      show jv_O X M_X11_bear _ jeI 91 [some (.ref (x0)), none, some (.int (x2)), none, some (.int (x4)), some (.int (x5))] [.int (v22)] h23 _
      refine jv_istore (L' := [some (.ref (x0)), none, some (.int (x2)), none, some (.int (v22)), some (.int (x5))]) (jv_dk t_X11_bear (k := 48) rfl) (Nat.le_of_ble_eq_true rfl) rfl ?_
      refine jv_iinc (v := 1) (L' := [some (.ref (x0)), none, some (.int (x2)), none, some (.int (v22)), some (.int (x5 + 1))]) (jv_dk t_X11_bear (k := 49) rfl) rfl (by decide) rfl ?_
      refine jv_goto (tgt := 59) (jv_dk t_X11_bear (k := 50) rfl) rfl ?_
      exact hR59 _ _ _ _ _ 
def f_X11_bear (a0 : Nat) (a1 : Int32) (h : jh) : Option (Int32 × jh) :=
  gR h a0 9 0 fun v1 =>
  cV h v1 3 (f_X5_leastFree v1 h) fun v2 h3 =>
  gR h3 a0 9 0 fun v4 =>
  gR h3 v4 3 4 fun v5 =>
  aI h3 v5 a1 fun v6 =>
  (if v2 = (-1) then
  some ((-1), h3)
  else
  gR h3 a0 9 1 fun v8 =>
  cV h3 v8 2 (f_X4_isDead v8 v6 h3) fun v9 h10 =>
  (if ¬ v9 = 0 then
  some ((-1), h10)
  else
  cV h10 a0 9 (f_X11_hasNumbersFree a0 v6 h10) fun v12 h13 =>
  (if ¬ v12 = 0 then
  gR h13 a0 9 0 fun v15 =>
  cV h13 v15 3 (f_X5_add v15 v2 a1 h13) fun _ h16 =>
  jlp4 (f_X11_bear_h59 (fun y25 h24 =>
  some (y25, h24))) jfu a0 v2 v6 0 h16
  else
  some ((-1), h13))))
theorem P_X11_bear (X : jx) (a0 : Nat) (a1 : Int32) (h : jh) : jv_P X M_X11_bear jeI [.ref (a0), .int (a1)] h (f_X11_bear a0 a1 h) := by
  refine jv_P.of (by decide) rfl (by simp [Value.category]) (Nat.le_of_ble_eq_true rfl) ?_
  show jv_O X M_X11_bear (h.1, h.2.1) jeI 0 [some (.ref (a0)), some (.int (a1)), none, none, none, none] [] h (f_X11_bear a0 a1 h)
  unfold f_X11_bear
  refine jv_aload_n (jv_dk t_X11_bear (k := 0) rfl) rfl rfl (Or.inr ⟨_, rfl⟩) ?_
  refine jv_gR (jv_dk t_X11_bear (k := 1) rfl) fl_X11_12 (fun v1 => ?_)
  refine jv_callV (en' := jeI) (pv := jpI) (As := []) (S := []) (jv_dk t_X11_bear (k := 2) rfl) (fun _ => rfl) lk_X11_165 me_X5_leastFree mv_X5_leastFree ⟨by decide, by decide⟩ rfl rfl rfl (Nat.le_of_ble_eq_true rfl) (P_X5_leastFree X v1 h) (fun v2 h3 => ?_)
  show jv_O X M_X11_bear _ jeI 7 [some (.ref (a0)), some (.int (a1)), none, none, none, none] [.int (v2)] h3 _
  refine jv_istore_n (L' := [some (.ref (a0)), some (.int (a1)), some (.int (v2)), none, none, none]) (jv_dk t_X11_bear (k := 3) rfl) rfl (Nat.le_of_ble_eq_true rfl) rfl ?_
  refine jv_aload_n (jv_dk t_X11_bear (k := 4) rfl) rfl rfl (Or.inr ⟨_, rfl⟩) ?_
  refine jv_gR (jv_dk t_X11_bear (k := 5) rfl) fl_X11_12 (fun v4 => ?_)
  refine jv_gR (jv_dk t_X11_bear (k := 6) rfl) fl_X11_159 (fun v5 => ?_)
  refine jv_iload_n (jv_dk t_X11_bear (k := 7) rfl) rfl rfl ?_
  refine jv_iaload (jv_dk t_X11_bear (k := 8) rfl) (fun v6 => ?_)
  refine jv_istore_n (L' := [some (.ref (a0)), some (.int (a1)), some (.int (v2)), some (.int (v6)), none, none]) (jv_dk t_X11_bear (k := 9) rfl) rfl (Nat.le_of_ble_eq_true rfl) rfl ?_
  refine jv_iload_n (jv_dk t_X11_bear (k := 10) rfl) rfl rfl ?_
  refine jv_iconst (v := (-1)) (jv_dk t_X11_bear (k := 11) rfl) (by decide) ?_
  refine jv_icmp_eq (tgt := 42) (jv_dk t_X11_bear (k := 12) rfl) rfl (fun c7 => ?_) (fun c7 => ?_)
  · refine jv_iconst (v := (-1)) (jv_dk t_X11_bear (k := 22) rfl) (by decide) ?_
    exact jv_iret (ty := .int) (jv_dk t_X11_bear (k := 23) rfl) rfl rfl rfl
  · show jv_O _ _ _ _ 23 _ _ _ _
    refine jv_aload_n (jv_dk t_X11_bear (k := 13) rfl) rfl rfl (Or.inr ⟨_, rfl⟩) ?_
    refine jv_gR (jv_dk t_X11_bear (k := 14) rfl) fl_X11_21 (fun v8 => ?_)
    refine jv_iload_n (jv_dk t_X11_bear (k := 15) rfl) rfl rfl ?_
    refine jv_callV (en' := jeI) (pv := jpI) (As := [.int (v6)]) (S := []) (jv_dk t_X11_bear (k := 16) rfl) (fun _ => rfl) lk_X11_162 me_X4_isDead mv_X4_isDead ⟨by decide, by decide⟩ rfl rfl rfl (Nat.le_of_ble_eq_true rfl) (P_X4_isDead X v8 v6 h3) (fun v9 h10 => ?_)
    show jv_O X M_X11_bear _ jeI 31 [some (.ref (a0)), some (.int (a1)), some (.int (v2)), some (.int (v6)), none, none] [.int (v9)] h10 _
    refine jv_if_ne (tgt := 42) (jv_dk t_X11_bear (k := 17) rfl) rfl (fun c11 => ?_) (fun c11 => ?_)
    · refine jv_iconst (v := (-1)) (jv_dk t_X11_bear (k := 22) rfl) (by decide) ?_
      exact jv_iret (ty := .int) (jv_dk t_X11_bear (k := 23) rfl) rfl rfl rfl
    · show jv_O _ _ _ _ 34 _ _ _ _
      refine jv_aload_n (jv_dk t_X11_bear (k := 18) rfl) rfl rfl (Or.inr ⟨_, rfl⟩) ?_
      refine jv_iload_n (jv_dk t_X11_bear (k := 19) rfl) rfl rfl ?_
      refine jv_callV (en' := jeI) (pv := jpI) (As := [.int (v6)]) (S := []) (jv_dk t_X11_bear (k := 20) rfl) (fun _ => rfl) (Or.inl lk_X11_168) me_X11_hasNumbersFree mv_X11_hasNumbersFree ⟨by decide, by decide⟩ rfl rfl rfl (Nat.le_of_ble_eq_true rfl) (P_X11_hasNumbersFree X a0 v6 h10) (fun v12 h13 => ?_)
      show jv_O X M_X11_bear _ jeI 39 [some (.ref (a0)), some (.int (a1)), some (.int (v2)), some (.int (v6)), none, none] [.int (v12)] h13 _
      refine jv_if_ne (tgt := 44) (jv_dk t_X11_bear (k := 21) rfl) rfl (fun c14 => ?_) (fun c14 => ?_)
      · refine jv_aload_n (jv_dk t_X11_bear (k := 24) rfl) rfl rfl (Or.inr ⟨_, rfl⟩) ?_
        refine jv_gR (jv_dk t_X11_bear (k := 25) rfl) fl_X11_12 (fun v15 => ?_)
        refine jv_iload_n (jv_dk t_X11_bear (k := 26) rfl) rfl rfl ?_
        refine jv_iload_n (jv_dk t_X11_bear (k := 27) rfl) rfl rfl ?_
        refine jv_callV (en' := jeV) (pv := jpV) (As := [.int (v2), .int (a1)]) (S := []) (jv_dk t_X11_bear (k := 28) rfl) (fun _ => rfl) lk_X11_171 me_X5_add mv_X5_add ⟨by decide, by decide⟩ rfl rfl rfl (Nat.le_of_ble_eq_true rfl) (P_X5_add X v15 v2 a1 h13) (fun _ h16 => ?_)
        show jv_O X M_X11_bear _ jeI 53 [some (.ref (a0)), some (.int (a1)), some (.int (v2)), some (.int (v6)), none, none] [] h16 _
        refine jv_iload_n (jv_dk t_X11_bear (k := 29) rfl) rfl rfl ?_
        refine jv_istore (L' := [some (.ref (a0)), some (.int (a1)), some (.int (v2)), some (.int (v6)), some (.int (v6)), none]) (jv_dk t_X11_bear (k := 30) rfl) (Nat.le_of_ble_eq_true rfl) rfl ?_
        refine jv_iconst (v := 0) (jv_dk t_X11_bear (k := 31) rfl) (by decide) ?_
        refine jv_istore (L' := [some (.ref (a0)), some (.int (a1)), some (.int (v2)), some (.int (v6)), some (.int (v6)), some (.int (0))]) (jv_dk t_X11_bear (k := 32) rfl) (Nat.le_of_ble_eq_true rfl) rfl ?_
        refine jv_le_row (jv_le_s (jv_le_n (jv_le_s (jv_le_n (jv_le_s (jv_le_s (jv_le_nil))))))) ?_
        refine o_f_X11_bear_h59 (fun y25 h24 => ?_) _ _ _ _ _ 
        show jv_O X M_X11_bear _ jeI 99 [none, none, some (.int (y25)), none, none, none] [] h24 _
        refine jv_iload_n (jv_dk t_X11_bear (k := 51) rfl) rfl rfl ?_
        exact jv_iret (ty := .int) (jv_dk t_X11_bear (k := 52) rfl) rfl rfl rfl
      · show jv_O _ _ _ _ 42 _ _ _ _
        refine jv_iconst (v := (-1)) (jv_dk t_X11_bear (k := 22) rfl) (by decide) ?_
        exact jv_iret (ty := .int) (jv_dk t_X11_bear (k := 23) rfl) rfl rfl rfl
def t0_X9_depth : List (Nat × Instr × Nat) := [(0, .iconst 0, 1), (1, .istore_n 2, 1), (2, .aload_n 0, 1), (3, .iload_n 1, 1), (4, .invokevirtual 23, 3), (7, .istore_n 3, 1), (8, .iconst 0, 1), (9, .istore 4, 2), (11, .iload 4, 2), (13, .bipush 8, 2), (15, .if_icmp .ge 23, 3), (18, .iload_n 3, 1), (19, .iconst (-1), 1), (20, .if_icmp .eq 18, 3), (23, .iinc 2 1, 3), (26, .aload_n 0, 1), (27, .iload_n 3, 1), (28, .invokevirtual 23, 3), (31, .istore_n 3, 1), (32, .iinc 4 1, 3), (35, .goto (-24), 3), (38, .iload_n 2, 1), (39, .ireturn, 1)]
theorem t_X9_depth : jv_dec cX9_depth t0_X9_depth = true := by decide +kernel
def M_X9_depth : jm := (yX9_depth, cX9_depth, 5, (some .int), 1, 21, [])
def f_X9_depth_h11 (K11 : Int32 → jh → Option (Int32 × jh)) (R11 : Nat → Int32 → Int32 → Int32 → jh → Option (Int32 × jh)) (x0 : Nat) (x2 : Int32) (x3 : Int32) (x4 : Int32) (h : jh) : Option (Int32 × jh) :=
  (if 8 ≤ x4 then
  K11 x2 h
  else
  (if x3 = (-1) then
  K11 x2 h
  else
  cV h x0 7 (f_X9_around x0 x3 h) fun v5 h6 =>
  R11 x0 (x2 + 1) v5 (x4 + 1) h6))
theorem o_f_X9_depth_h11 {X : jx} {b0 : Nat × Nat} {K11 : Int32 → jh → Option (Int32 × jh)} (hK11 : ∀ (x2 : Int32) (h : jh), jv_O X M_X9_depth b0 jeI 38 [none, none, some (.int (x2)), none, none] [] h (K11 x2 h)) : ∀ (x0 : Nat) (x2 : Int32) (x3 : Int32) (x4 : Int32) (h : jh), jv_O X M_X9_depth b0 jeI 11 [some (.ref (x0)), none, some (.int (x2)), some (.int (x3)), some (.int (x4))] [] h (jlp4 (f_X9_depth_h11 K11) jfu x0 x2 x3 x4 h) := by
  refine jlp4_ok (P := fun x0 x2 x3 x4 h o => jv_O X M_X9_depth b0 jeI 11 [some (.ref (x0)), none, some (.int (x2)), some (.int (x3)), some (.int (x4))] [] h o) (fun R11 hR11 => ?_) (fun _ _ _ _ _  => jv_none rfl) jfu
  intro x0 x2 x3 x4 h
  unfold f_X9_depth_h11
  refine jv_iload (jv_dk t_X9_depth (k := 8) rfl) rfl ?_
  refine jv_bipush (v := 8) (jv_dk t_X9_depth (k := 9) rfl) (by decide) ?_
  refine jv_icmp_ge (tgt := 38) (jv_dk t_X9_depth (k := 10) rfl) rfl (fun c3 => ?_) (fun c3 => ?_)
  · refine jv_le_row (jv_le_n (jv_le_n (jv_le_s (jv_le_n (jv_le_n (jv_le_nil)))))) ?_
    exact hK11 _ _ 
  · show jv_O _ _ _ _ 18 _ _ _ _
    refine jv_iload_n (jv_dk t_X9_depth (k := 11) rfl) rfl rfl ?_
    refine jv_iconst (v := (-1)) (jv_dk t_X9_depth (k := 12) rfl) (by decide) ?_
    refine jv_icmp_eq (tgt := 38) (jv_dk t_X9_depth (k := 13) rfl) rfl (fun c4 => ?_) (fun c4 => ?_)
    · refine jv_le_row (jv_le_n (jv_le_n (jv_le_s (jv_le_n (jv_le_n (jv_le_nil)))))) ?_
      exact hK11 _ _ 
    · show jv_O _ _ _ _ 23 _ _ _ _
      refine jv_iinc (v := 1) (L' := [some (.ref (x0)), none, some (.int (x2 + 1)), some (.int (x3)), some (.int (x4))]) (jv_dk t_X9_depth (k := 14) rfl) rfl (by decide) rfl ?_
      refine jv_aload_n (jv_dk t_X9_depth (k := 15) rfl) rfl rfl (Or.inr ⟨_, rfl⟩) ?_
      refine jv_iload_n (jv_dk t_X9_depth (k := 16) rfl) rfl rfl ?_
      refine jv_callV (en' := jeI) (pv := jpI) (As := [.int (x3)]) (S := []) (jv_dk t_X9_depth (k := 17) rfl) (fun _ => rfl) (Or.inl lk_X9_23) me_X9_around mv_X9_around ⟨by decide, by decide⟩ rfl rfl rfl (Nat.le_of_ble_eq_true rfl) (P_X9_around X x0 x3 h) (fun v5 h6 => ?_)
      show jv_O X M_X9_depth _ jeI 31 [some (.ref (x0)), none, some (.int (x2 + 1)), some (.int (x3)), some (.int (x4))] [.int (v5)] h6 _
      refine jv_istore_n (L' := [some (.ref (x0)), none, some (.int (x2 + 1)), some (.int (v5)), some (.int (x4))]) (jv_dk t_X9_depth (k := 18) rfl) rfl (Nat.le_of_ble_eq_true rfl) rfl ?_
      refine jv_iinc (v := 1) (L' := [some (.ref (x0)), none, some (.int (x2 + 1)), some (.int (v5)), some (.int (x4 + 1))]) (jv_dk t_X9_depth (k := 19) rfl) rfl (by decide) rfl ?_
      refine jv_goto (tgt := 11) (jv_dk t_X9_depth (k := 20) rfl) rfl ?_
      exact hR11 _ _ _ _ _ 
def f_X9_depth (a0 : Nat) (a1 : Int32) (h : jh) : Option (Int32 × jh) :=
  cV h a0 7 (f_X9_around a0 a1 h) fun v1 h2 =>
  jlp4 (f_X9_depth_h11 (fun y8 h7 =>
  some (y8, h7))) jfu a0 0 v1 0 h2
theorem P_X9_depth (X : jx) (a0 : Nat) (a1 : Int32) (h : jh) : jv_P X M_X9_depth jeI [.ref (a0), .int (a1)] h (f_X9_depth a0 a1 h) := by
  refine jv_P.of (by decide) rfl (by simp [Value.category]) (Nat.le_of_ble_eq_true rfl) ?_
  show jv_O X M_X9_depth (h.1, h.2.1) jeI 0 [some (.ref (a0)), some (.int (a1)), none, none, none] [] h (f_X9_depth a0 a1 h)
  unfold f_X9_depth
  refine jv_iconst (v := 0) (jv_dk t_X9_depth (k := 0) rfl) (by decide) ?_
  refine jv_istore_n (L' := [some (.ref (a0)), some (.int (a1)), some (.int (0)), none, none]) (jv_dk t_X9_depth (k := 1) rfl) rfl (Nat.le_of_ble_eq_true rfl) rfl ?_
  refine jv_aload_n (jv_dk t_X9_depth (k := 2) rfl) rfl rfl (Or.inr ⟨_, rfl⟩) ?_
  refine jv_iload_n (jv_dk t_X9_depth (k := 3) rfl) rfl rfl ?_
  refine jv_callV (en' := jeI) (pv := jpI) (As := [.int (a1)]) (S := []) (jv_dk t_X9_depth (k := 4) rfl) (fun _ => rfl) (Or.inl lk_X9_23) me_X9_around mv_X9_around ⟨by decide, by decide⟩ rfl rfl rfl (Nat.le_of_ble_eq_true rfl) (P_X9_around X a0 a1 h) (fun v1 h2 => ?_)
  show jv_O X M_X9_depth _ jeI 7 [some (.ref (a0)), some (.int (a1)), some (.int (0)), none, none] [.int (v1)] h2 _
  refine jv_istore_n (L' := [some (.ref (a0)), some (.int (a1)), some (.int (0)), some (.int (v1)), none]) (jv_dk t_X9_depth (k := 5) rfl) rfl (Nat.le_of_ble_eq_true rfl) rfl ?_
  refine jv_iconst (v := 0) (jv_dk t_X9_depth (k := 6) rfl) (by decide) ?_
  refine jv_istore (L' := [some (.ref (a0)), some (.int (a1)), some (.int (0)), some (.int (v1)), some (.int (0))]) (jv_dk t_X9_depth (k := 7) rfl) (Nat.le_of_ble_eq_true rfl) rfl ?_
  refine jv_le_row (jv_le_s (jv_le_n (jv_le_s (jv_le_s (jv_le_s (jv_le_nil)))))) ?_
  refine o_f_X9_depth_h11 (fun y8 h7 => ?_) _ _ _ _ _ 
  show jv_O X M_X9_depth _ jeI 38 [none, none, some (.int (y8)), none, none] [] h7 _
  refine jv_iload_n (jv_dk t_X9_depth (k := 21) rfl) rfl rfl ?_
  exact jv_iret (ty := .int) (jv_dk t_X9_depth (k := 22) rfl) rfl rfl rfl
def t0_X9_canGrowAt : List (Nat × Instr × Nat) := [(0, .aload_n 0, 1), (1, .iload_n 1, 1), (2, .invokevirtual 27, 3), (5, .ifCond .eq 25, 3), (8, .aload_n 0, 1), (9, .getfield 15, 3), (12, .bipush 8, 2), (14, .if_icmp .ge 16, 3), (17, .aload_n 0, 1), (18, .iload_n 1, 1), (19, .invokevirtual 31, 3), (22, .iconst 4, 1), (23, .if_icmp .ge 7, 3), (26, .iconst 1, 1), (27, .goto 4, 3), (30, .iconst 0, 1), (31, .ireturn, 1)]
theorem t_X9_canGrowAt : jv_dec cX9_canGrowAt t0_X9_canGrowAt = true := by decide +kernel
def M_X9_canGrowAt : jm := (yX9_canGrowAt, cX9_canGrowAt, 2, (some .boolean), 2, 45, [])
theorem lk_X9_27 : Cond.methodLink RX9 27 M_X9_has.1 ∈ lw_tbl := (jv_at 667 (by decide +kernel))
theorem lk_X9_31 : Cond.methodLink RX9 31 M_X9_depth.1 ∈ lw_tbl := (jv_at 668 (by decide +kernel))
set_option maxRecDepth 20000 in
theorem me_X9_depth : jv_me M_X9_depth 1 := ⟨(jv_in3 (List.mem_of_getElem? (i := 31) rfl)), (jv_at 166 (by decide +kernel)), ⟨by decide, by decide⟩, by decide +kernel⟩
theorem mv_X9_depth : jv_mv M_X9_depth := ⟨(jv_at 670 (by decide +kernel)), (jv_at 28 (by decide +kernel))⟩
def f_X9_canGrowAt (a0 : Nat) (a1 : Int32) (h : jh) : Option (Int32 × jh) :=
  cV h a0 7 (f_X9_has a0 a1 h) fun v1 h2 =>
  (if v1 = 0 then
  some (0, h2)
  else
  gI h2 a0 7 1 fun v4 =>
  (if 8 ≤ v4 then
  some (0, h2)
  else
  cV h2 a0 7 (f_X9_depth a0 a1 h2) fun v6 h7 =>
  (if 4 ≤ v6 then
  some (0, h7)
  else
  some (1, h7))))
theorem P_X9_canGrowAt (X : jx) (a0 : Nat) (a1 : Int32) (h : jh) : jv_P X M_X9_canGrowAt jeI [.ref (a0), .int (a1)] h (f_X9_canGrowAt a0 a1 h) := by
  refine jv_P.of (by decide) rfl (by simp [Value.category]) (Nat.le_of_ble_eq_true rfl) ?_
  show jv_O X M_X9_canGrowAt (h.1, h.2.1) jeI 0 [some (.ref (a0)), some (.int (a1))] [] h (f_X9_canGrowAt a0 a1 h)
  unfold f_X9_canGrowAt
  refine jv_aload_n (jv_dk t_X9_canGrowAt (k := 0) rfl) rfl rfl (Or.inr ⟨_, rfl⟩) ?_
  refine jv_iload_n (jv_dk t_X9_canGrowAt (k := 1) rfl) rfl rfl ?_
  refine jv_callV (en' := jeI) (pv := jpI) (As := [.int (a1)]) (S := []) (jv_dk t_X9_canGrowAt (k := 2) rfl) (fun _ => rfl) (Or.inl lk_X9_27) me_X9_has mv_X9_has ⟨by decide, by decide⟩ rfl rfl rfl (Nat.le_of_ble_eq_true rfl) (P_X9_has X a0 a1 h) (fun v1 h2 => ?_)
  show jv_O X M_X9_canGrowAt _ jeI 5 [some (.ref (a0)), some (.int (a1))] [.int (v1)] h2 _
  refine jv_if_eq (tgt := 30) (jv_dk t_X9_canGrowAt (k := 3) rfl) rfl (fun c3 => ?_) (fun c3 => ?_)
  · refine jv_iconst (v := 0) (jv_dk t_X9_canGrowAt (k := 15) rfl) (by decide) ?_
    exact jv_iret (ty := .boolean) (jv_dk t_X9_canGrowAt (k := 16) rfl) rfl rfl rfl
  · show jv_O _ _ _ _ 8 _ _ _ _
    refine jv_aload_n (jv_dk t_X9_canGrowAt (k := 4) rfl) rfl rfl (Or.inr ⟨_, rfl⟩) ?_
    refine jv_gI (jv_dk t_X9_canGrowAt (k := 5) rfl) fl_X9_15 (fun v4 => ?_)
    refine jv_bipush (v := 8) (jv_dk t_X9_canGrowAt (k := 6) rfl) (by decide) ?_
    refine jv_icmp_ge (tgt := 30) (jv_dk t_X9_canGrowAt (k := 7) rfl) rfl (fun c5 => ?_) (fun c5 => ?_)
    · refine jv_iconst (v := 0) (jv_dk t_X9_canGrowAt (k := 15) rfl) (by decide) ?_
      exact jv_iret (ty := .boolean) (jv_dk t_X9_canGrowAt (k := 16) rfl) rfl rfl rfl
    · show jv_O _ _ _ _ 17 _ _ _ _
      refine jv_aload_n (jv_dk t_X9_canGrowAt (k := 8) rfl) rfl rfl (Or.inr ⟨_, rfl⟩) ?_
      refine jv_iload_n (jv_dk t_X9_canGrowAt (k := 9) rfl) rfl rfl ?_
      refine jv_callV (en' := jeI) (pv := jpI) (As := [.int (a1)]) (S := []) (jv_dk t_X9_canGrowAt (k := 10) rfl) (fun _ => rfl) (Or.inl lk_X9_31) me_X9_depth mv_X9_depth ⟨by decide, by decide⟩ rfl rfl rfl (Nat.le_of_ble_eq_true rfl) (P_X9_depth X a0 a1 h2) (fun v6 h7 => ?_)
      show jv_O X M_X9_canGrowAt _ jeI 22 [some (.ref (a0)), some (.int (a1))] [.int (v6)] h7 _
      refine jv_iconst (v := 4) (jv_dk t_X9_canGrowAt (k := 11) rfl) (by decide) ?_
      refine jv_icmp_ge (tgt := 30) (jv_dk t_X9_canGrowAt (k := 12) rfl) rfl (fun c8 => ?_) (fun c8 => ?_)
      · refine jv_iconst (v := 0) (jv_dk t_X9_canGrowAt (k := 15) rfl) (by decide) ?_
        exact jv_iret (ty := .boolean) (jv_dk t_X9_canGrowAt (k := 16) rfl) rfl rfl rfl
      · show jv_O _ _ _ _ 26 _ _ _ _
        refine jv_iconst (v := 1) (jv_dk t_X9_canGrowAt (k := 13) rfl) (by decide) ?_
        refine jv_goto (tgt := 31) (jv_dk t_X9_canGrowAt (k := 14) rfl) rfl ?_
        exact jv_iret (ty := .boolean) (jv_dk t_X9_canGrowAt (k := 16) rfl) rfl rfl rfl
def t0_X9_growAt : List (Nat × Instr × Nat) := [(0, .aload_n 0, 1), (1, .iload_n 1, 1), (2, .invokevirtual 34, 3), (5, .ifCond .ne 5, 3), (8, .iconst (-1), 1), (9, .ireturn, 1), (10, .aload_n 0, 1), (11, .getfield 9, 3), (14, .aload_n 0, 1), (15, .getfield 15, 3), (18, .iload_n 1, 1), (19, .iastore, 1), (20, .aload_n 0, 1), (21, .dup, 1), (22, .getfield 15, 3), (25, .iconst 1, 1), (26, .iadd, 1), (27, .putfield 15, 3), (30, .aload_n 0, 1), (31, .getfield 15, 3), (34, .iconst 1, 1), (35, .isub, 1), (36, .ireturn, 1)]
theorem t_X9_growAt : jv_dec cX9_growAt t0_X9_growAt = true := by decide +kernel
def M_X9_growAt : jm := (yX9_growAt, cX9_growAt, 2, (some .int), 3, 66, [])
theorem lk_X9_34 : Cond.methodLink RX9 34 M_X9_canGrowAt.1 ∈ lw_tbl := (jv_at 663 (by decide +kernel))
set_option maxRecDepth 20000 in
theorem me_X9_canGrowAt : jv_me M_X9_canGrowAt 1 := ⟨(jv_in3 (List.mem_of_getElem? (i := 26) rfl)), (jv_at 166 (by decide +kernel)), ⟨by decide, by decide⟩, by decide +kernel⟩
theorem mv_X9_canGrowAt : jv_mv M_X9_canGrowAt := ⟨(jv_at 665 (by decide +kernel)), (jv_at 27 (by decide +kernel))⟩
def f_X9_growAt (a0 : Nat) (a1 : Int32) (h : jh) : Option (Int32 × jh) :=
  cV h a0 7 (f_X9_canGrowAt a0 a1 h) fun v1 h2 =>
  (if ¬ v1 = 0 then
  gR h2 a0 7 0 fun v4 =>
  gI h2 a0 7 1 fun v5 =>
  sI h2 v4 v5 a1 fun h6 =>
  gI h6 a0 7 1 fun v7 =>
  pV h6 a0 7 1 (.int (v7 + 1)) fun h8 =>
  gI h8 a0 7 1 fun v9 =>
  some (v9 - 1, h8)
  else
  some ((-1), h2))
theorem P_X9_growAt (X : jx) (a0 : Nat) (a1 : Int32) (h : jh) : jv_P X M_X9_growAt jeI [.ref (a0), .int (a1)] h (f_X9_growAt a0 a1 h) := by
  refine jv_P.of (by decide) rfl (by simp [Value.category]) (Nat.le_of_ble_eq_true rfl) ?_
  show jv_O X M_X9_growAt (h.1, h.2.1) jeI 0 [some (.ref (a0)), some (.int (a1))] [] h (f_X9_growAt a0 a1 h)
  unfold f_X9_growAt
  refine jv_aload_n (jv_dk t_X9_growAt (k := 0) rfl) rfl rfl (Or.inr ⟨_, rfl⟩) ?_
  refine jv_iload_n (jv_dk t_X9_growAt (k := 1) rfl) rfl rfl ?_
  refine jv_callV (en' := jeI) (pv := jpI) (As := [.int (a1)]) (S := []) (jv_dk t_X9_growAt (k := 2) rfl) (fun _ => rfl) (Or.inl lk_X9_34) me_X9_canGrowAt mv_X9_canGrowAt ⟨by decide, by decide⟩ rfl rfl rfl (Nat.le_of_ble_eq_true rfl) (P_X9_canGrowAt X a0 a1 h) (fun v1 h2 => ?_)
  show jv_O X M_X9_growAt _ jeI 5 [some (.ref (a0)), some (.int (a1))] [.int (v1)] h2 _
  refine jv_if_ne (tgt := 10) (jv_dk t_X9_growAt (k := 3) rfl) rfl (fun c3 => ?_) (fun c3 => ?_)
  · refine jv_aload_n (jv_dk t_X9_growAt (k := 6) rfl) rfl rfl (Or.inr ⟨_, rfl⟩) ?_
    refine jv_gR (jv_dk t_X9_growAt (k := 7) rfl) fl_X9_9 (fun v4 => ?_)
    refine jv_aload_n (jv_dk t_X9_growAt (k := 8) rfl) rfl rfl (Or.inr ⟨_, rfl⟩) ?_
    refine jv_gI (jv_dk t_X9_growAt (k := 9) rfl) fl_X9_15 (fun v5 => ?_)
    refine jv_iload_n (jv_dk t_X9_growAt (k := 10) rfl) rfl rfl ?_
    refine jv_iastore (jv_dk t_X9_growAt (k := 11) rfl) (fun h6 => ?_)
    refine jv_aload_n (jv_dk t_X9_growAt (k := 12) rfl) rfl rfl (Or.inr ⟨_, rfl⟩) ?_
    refine jv_dup (jv_dk t_X9_growAt (k := 13) rfl) rfl ?_
    refine jv_gI (jv_dk t_X9_growAt (k := 14) rfl) fl_X9_15 (fun v7 => ?_)
    refine jv_iconst (v := 1) (jv_dk t_X9_growAt (k := 15) rfl) (by decide) ?_
    refine jv_iadd (jv_dk t_X9_growAt (k := 16) rfl) ?_
    refine jv_pV (jv_dk t_X9_growAt (k := 17) rfl) fl_X9_15 kX9 (Or.inl rfl) rfl rfl rfl (fun h8 => ?_)
    refine jv_aload_n (jv_dk t_X9_growAt (k := 18) rfl) rfl rfl (Or.inr ⟨_, rfl⟩) ?_
    refine jv_gI (jv_dk t_X9_growAt (k := 19) rfl) fl_X9_15 (fun v9 => ?_)
    refine jv_iconst (v := 1) (jv_dk t_X9_growAt (k := 20) rfl) (by decide) ?_
    refine jv_isub (jv_dk t_X9_growAt (k := 21) rfl) ?_
    exact jv_iret (ty := .int) (jv_dk t_X9_growAt (k := 22) rfl) rfl rfl rfl
  · show jv_O _ _ _ _ 8 _ _ _ _
    refine jv_iconst (v := (-1)) (jv_dk t_X9_growAt (k := 4) rfl) (by decide) ?_
    exact jv_iret (ty := .int) (jv_dk t_X9_growAt (k := 5) rfl) rfl rfl rfl
def t0_X11_makeUserSpace : List (Nat × Instr × Nat) := [(0, .aload_n 0, 1), (1, .getfield 28, 3), (4, .getfield 56, 3), (7, .aload_n 0, 1), (8, .getfield 12, 3), (11, .getfield 137, 3), (14, .iload_n 1, 1), (15, .iaload, 1), (16, .invokevirtual 195, 3), (19, .istore_n 2, 1), (20, .iload_n 2, 1), (21, .iconst (-1), 1), (22, .if_icmp .ne 5, 3), (25, .iconst (-1), 1), (26, .ireturn, 1), (27, .aload_n 0, 1), (28, .getfield 28, 3), (31, .getfield 62, 3), (34, .iload_n 2, 1), (35, .aload_n 0, 1), (36, .getfield 12, 3), (39, .getfield 143, 3), (42, .iload_n 1, 1), (43, .iaload, 1), (44, .iastore, 1), (45, .aload_n 0, 1), (46, .getfield 28, 3), (49, .getfield 70, 3), (52, .iload_n 2, 1), (53, .iconst 0, 1), (54, .iastore, 1), (55, .aload_n 0, 1), (56, .getfield 12, 3), (59, .getfield 137, 3), (62, .iload_n 1, 1), (63, .iload_n 2, 1), (64, .iastore, 1), (65, .aload_n 0, 1), (66, .getfield 12, 3), (69, .iload_n 1, 1), (70, .iconst 1, 1), (71, .invokevirtual 198, 3), (74, .iload_n 2, 1), (75, .ireturn, 1)]
theorem t_X11_makeUserSpace : jv_dec cX11_makeUserSpace t0_X11_makeUserSpace = true := by decide +kernel
def M_X11_makeUserSpace : jm := (yX11_makeUserSpace, cX11_makeUserSpace, 3, (some .int), 4, 87, [])
theorem fl_X11_28 : jv_F RX11 28 9 2 RX11 TX11 4 := ⟨rfl, by decide, inX11, Or.inl (jv_at 373 (by decide +kernel))⟩
theorem fl_X11_56 : jv_F RX11 56 8 0 RX10 TX10 6 := ⟨rfl, by decide, inX10, Or.inr ⟨"SpaceWarden", (jv_at 312 (by decide +kernel))⟩⟩
theorem fl_X11_137 : jv_F RX11 137 3 2 RX5 TX5 9 := ⟨rfl, by decide, inX5, Or.inr ⟨"SpaceWarden", (jv_at 223 (by decide +kernel))⟩⟩
theorem lk_X11_195 : jv_lk RX11 195 M_X9_growAt := Or.inr ⟨"SpaceWarden", (jv_at 659 (by decide +kernel))⟩
set_option maxRecDepth 20000 in
theorem me_X9_growAt : jv_me M_X9_growAt 1 := ⟨(jv_in3 (List.mem_of_getElem? (i := 22) rfl)), (jv_at 166 (by decide +kernel)), ⟨by decide, by decide⟩, by decide +kernel⟩
theorem fl_X11_62 : jv_F RX11 62 8 1 RX10 TX10 6 := ⟨rfl, by decide, inX10, Or.inr ⟨"SpaceWarden", (jv_at 315 (by decide +kernel))⟩⟩
theorem fl_X11_143 : jv_F RX11 143 3 5 RX5 TX5 9 := ⟨rfl, by decide, inX5, Or.inr ⟨"SpaceWarden", (jv_at 234 (by decide +kernel))⟩⟩
theorem fl_X11_70 : jv_F RX11 70 8 2 RX10 TX10 6 := ⟨rfl, by decide, inX10, Or.inr ⟨"SpaceWarden", (jv_at 317 (by decide +kernel))⟩⟩
theorem lk_X11_198 : jv_lk RX11 198 M_X5_setPower := Or.inr ⟨"SpaceWarden", (jv_at 673 (by decide +kernel))⟩
theorem mv_X9_growAt : jv_mv M_X9_growAt := ⟨(jv_at 661 (by decide +kernel)), (jv_at 26 (by decide +kernel))⟩
def f_X11_makeUserSpace (a0 : Nat) (a1 : Int32) (h : jh) : Option (Int32 × jh) :=
  gR h a0 9 2 fun v1 =>
  gR h v1 8 0 fun v2 =>
  gR h a0 9 0 fun v3 =>
  gR h v3 3 2 fun v4 =>
  aI h v4 a1 fun v5 =>
  cV h v2 7 (f_X9_growAt v2 v5 h) fun v6 h7 =>
  (if ¬ v6 = (-1) then
  gR h7 a0 9 2 fun v9 =>
  gR h7 v9 8 1 fun v10 =>
  gR h7 a0 9 0 fun v11 =>
  gR h7 v11 3 5 fun v12 =>
  aI h7 v12 a1 fun v13 =>
  sI h7 v10 v6 v13 fun h14 =>
  gR h14 a0 9 2 fun v15 =>
  gR h14 v15 8 2 fun v16 =>
  sI h14 v16 v6 0 fun h17 =>
  gR h17 a0 9 0 fun v18 =>
  gR h17 v18 3 2 fun v19 =>
  sI h17 v19 a1 v6 fun h20 =>
  gR h20 a0 9 0 fun v21 =>
  cV h20 v21 3 (f_X5_setPower v21 a1 1 h20) fun _ h22 =>
  some (v6, h22)
  else
  some ((-1), h7))
theorem P_X11_makeUserSpace (X : jx) (a0 : Nat) (a1 : Int32) (h : jh) : jv_P X M_X11_makeUserSpace jeI [.ref (a0), .int (a1)] h (f_X11_makeUserSpace a0 a1 h) := by
  refine jv_P.of (by decide) rfl (by simp [Value.category]) (Nat.le_of_ble_eq_true rfl) ?_
  show jv_O X M_X11_makeUserSpace (h.1, h.2.1) jeI 0 [some (.ref (a0)), some (.int (a1)), none] [] h (f_X11_makeUserSpace a0 a1 h)
  unfold f_X11_makeUserSpace
  refine jv_aload_n (jv_dk t_X11_makeUserSpace (k := 0) rfl) rfl rfl (Or.inr ⟨_, rfl⟩) ?_
  refine jv_gR (jv_dk t_X11_makeUserSpace (k := 1) rfl) fl_X11_28 (fun v1 => ?_)
  refine jv_gR (jv_dk t_X11_makeUserSpace (k := 2) rfl) fl_X11_56 (fun v2 => ?_)
  refine jv_aload_n (jv_dk t_X11_makeUserSpace (k := 3) rfl) rfl rfl (Or.inr ⟨_, rfl⟩) ?_
  refine jv_gR (jv_dk t_X11_makeUserSpace (k := 4) rfl) fl_X11_12 (fun v3 => ?_)
  refine jv_gR (jv_dk t_X11_makeUserSpace (k := 5) rfl) fl_X11_137 (fun v4 => ?_)
  refine jv_iload_n (jv_dk t_X11_makeUserSpace (k := 6) rfl) rfl rfl ?_
  refine jv_iaload (jv_dk t_X11_makeUserSpace (k := 7) rfl) (fun v5 => ?_)
  refine jv_callV (en' := jeI) (pv := jpI) (As := [.int (v5)]) (S := []) (jv_dk t_X11_makeUserSpace (k := 8) rfl) (fun _ => rfl) lk_X11_195 me_X9_growAt mv_X9_growAt ⟨by decide, by decide⟩ rfl rfl rfl (Nat.le_of_ble_eq_true rfl) (P_X9_growAt X v2 v5 h) (fun v6 h7 => ?_)
  show jv_O X M_X11_makeUserSpace _ jeI 19 [some (.ref (a0)), some (.int (a1)), none] [.int (v6)] h7 _
  refine jv_istore_n (L' := [some (.ref (a0)), some (.int (a1)), some (.int (v6))]) (jv_dk t_X11_makeUserSpace (k := 9) rfl) rfl (Nat.le_of_ble_eq_true rfl) rfl ?_
  refine jv_iload_n (jv_dk t_X11_makeUserSpace (k := 10) rfl) rfl rfl ?_
  refine jv_iconst (v := (-1)) (jv_dk t_X11_makeUserSpace (k := 11) rfl) (by decide) ?_
  refine jv_icmp_ne (tgt := 27) (jv_dk t_X11_makeUserSpace (k := 12) rfl) rfl (fun c8 => ?_) (fun c8 => ?_)
  · refine jv_aload_n (jv_dk t_X11_makeUserSpace (k := 15) rfl) rfl rfl (Or.inr ⟨_, rfl⟩) ?_
    refine jv_gR (jv_dk t_X11_makeUserSpace (k := 16) rfl) fl_X11_28 (fun v9 => ?_)
    refine jv_gR (jv_dk t_X11_makeUserSpace (k := 17) rfl) fl_X11_62 (fun v10 => ?_)
    refine jv_iload_n (jv_dk t_X11_makeUserSpace (k := 18) rfl) rfl rfl ?_
    refine jv_aload_n (jv_dk t_X11_makeUserSpace (k := 19) rfl) rfl rfl (Or.inr ⟨_, rfl⟩) ?_
    refine jv_gR (jv_dk t_X11_makeUserSpace (k := 20) rfl) fl_X11_12 (fun v11 => ?_)
    refine jv_gR (jv_dk t_X11_makeUserSpace (k := 21) rfl) fl_X11_143 (fun v12 => ?_)
    refine jv_iload_n (jv_dk t_X11_makeUserSpace (k := 22) rfl) rfl rfl ?_
    refine jv_iaload (jv_dk t_X11_makeUserSpace (k := 23) rfl) (fun v13 => ?_)
    refine jv_iastore (jv_dk t_X11_makeUserSpace (k := 24) rfl) (fun h14 => ?_)
    refine jv_aload_n (jv_dk t_X11_makeUserSpace (k := 25) rfl) rfl rfl (Or.inr ⟨_, rfl⟩) ?_
    refine jv_gR (jv_dk t_X11_makeUserSpace (k := 26) rfl) fl_X11_28 (fun v15 => ?_)
    refine jv_gR (jv_dk t_X11_makeUserSpace (k := 27) rfl) fl_X11_70 (fun v16 => ?_)
    refine jv_iload_n (jv_dk t_X11_makeUserSpace (k := 28) rfl) rfl rfl ?_
    refine jv_iconst (v := 0) (jv_dk t_X11_makeUserSpace (k := 29) rfl) (by decide) ?_
    refine jv_iastore (jv_dk t_X11_makeUserSpace (k := 30) rfl) (fun h17 => ?_)
    refine jv_aload_n (jv_dk t_X11_makeUserSpace (k := 31) rfl) rfl rfl (Or.inr ⟨_, rfl⟩) ?_
    refine jv_gR (jv_dk t_X11_makeUserSpace (k := 32) rfl) fl_X11_12 (fun v18 => ?_)
    refine jv_gR (jv_dk t_X11_makeUserSpace (k := 33) rfl) fl_X11_137 (fun v19 => ?_)
    refine jv_iload_n (jv_dk t_X11_makeUserSpace (k := 34) rfl) rfl rfl ?_
    refine jv_iload_n (jv_dk t_X11_makeUserSpace (k := 35) rfl) rfl rfl ?_
    refine jv_iastore (jv_dk t_X11_makeUserSpace (k := 36) rfl) (fun h20 => ?_)
    refine jv_aload_n (jv_dk t_X11_makeUserSpace (k := 37) rfl) rfl rfl (Or.inr ⟨_, rfl⟩) ?_
    refine jv_gR (jv_dk t_X11_makeUserSpace (k := 38) rfl) fl_X11_12 (fun v21 => ?_)
    refine jv_iload_n (jv_dk t_X11_makeUserSpace (k := 39) rfl) rfl rfl ?_
    refine jv_iconst (v := 1) (jv_dk t_X11_makeUserSpace (k := 40) rfl) (by decide) ?_
    refine jv_callV (en' := jeV) (pv := jpV) (As := [.int (a1), .int (1)]) (S := []) (jv_dk t_X11_makeUserSpace (k := 41) rfl) (fun _ => rfl) lk_X11_198 me_X5_setPower mv_X5_setPower ⟨by decide, by decide⟩ rfl rfl rfl (Nat.le_of_ble_eq_true rfl) (P_X5_setPower X v21 a1 1 h20) (fun _ h22 => ?_)
    show jv_O X M_X11_makeUserSpace _ jeI 74 [some (.ref (a0)), some (.int (a1)), some (.int (v6))] [] h22 _
    refine jv_iload_n (jv_dk t_X11_makeUserSpace (k := 42) rfl) rfl rfl ?_
    exact jv_iret (ty := .int) (jv_dk t_X11_makeUserSpace (k := 43) rfl) rfl rfl rfl
  · show jv_O _ _ _ _ 25 _ _ _ _
    refine jv_iconst (v := (-1)) (jv_dk t_X11_makeUserSpace (k := 13) rfl) (by decide) ?_
    exact jv_iret (ty := .int) (jv_dk t_X11_makeUserSpace (k := 14) rfl) rfl rfl rfl
def t0_X11_makeNumberSpace : List (Nat × Instr × Nat) := [(0, .aload_n 0, 1), (1, .getfield 12, 3), (4, .getfield 131, 3), (7, .iload_n 1, 1), (8, .iaload, 1), (9, .istore_n 2, 1), (10, .aload_n 0, 1), (11, .getfield 12, 3), (14, .iload_n 1, 1), (15, .invokevirtual 140, 3), (18, .ifCond .eq 16, 3), (21, .aload_n 0, 1), (22, .getfield 12, 3), (25, .getfield 159, 3), (28, .iload_n 1, 1), (29, .iaload, 1), (30, .iload_n 2, 1), (31, .if_icmp .eq 5, 3), (34, .iconst (-1), 1), (35, .ireturn, 1), (36, .aload_n 0, 1), (37, .getfield 21, 3), (40, .getfield 52, 3), (43, .iload_n 2, 1), (44, .invokevirtual 195, 3), (47, .istore_n 3, 1), (48, .iload_n 3, 1), (49, .iconst (-1), 1), (50, .if_icmp .ne 5, 3), (53, .iconst (-1), 1), (54, .ireturn, 1), (55, .aload_n 0, 1), (56, .getfield 21, 3), (59, .getfield 58, 3), (62, .iload_n 3, 1), (63, .aload_n 0, 1), (64, .getfield 12, 3), (67, .getfield 137, 3), (70, .iload_n 1, 1), (71, .iaload, 1), (72, .iastore, 1), (73, .aload_n 0, 1), (74, .getfield 12, 3), (77, .getfield 159, 3), (80, .iload_n 1, 1), (81, .iload_n 3, 1), (82, .iastore, 1), (83, .iload_n 3, 1), (84, .ireturn, 1)]
theorem t_X11_makeNumberSpace : jv_dec cX11_makeNumberSpace t0_X11_makeNumberSpace = true := by decide +kernel
def M_X11_makeNumberSpace : jm := (yX11_makeNumberSpace, cX11_makeNumberSpace, 4, (some .int), 4, 87, [])
theorem lk_X11_140 : jv_lk RX11 140 M_X5_hasPower := Or.inr ⟨"SpaceWarden", (jv_at 678 (by decide +kernel))⟩
theorem fl_X11_58 : jv_F RX11 58 2 1 RX4 TX4 4 := ⟨rfl, by decide, inX4, Or.inr ⟨"SpaceWarden", (jv_at 289 (by decide +kernel))⟩⟩
def f_X11_makeNumberSpace (a0 : Nat) (a1 : Int32) (h : jh) : Option (Int32 × jh) :=
  gR h a0 9 0 fun v1 =>
  gR h v1 3 1 fun v2 =>
  aI h v2 a1 fun v3 =>
  gR h a0 9 0 fun v4 =>
  cV h v4 3 (f_X5_hasPower v4 a1 h) fun v5 h6 =>
  (if v5 = 0 then
  some ((-1), h6)
  else
  gR h6 a0 9 0 fun v8 =>
  gR h6 v8 3 4 fun v9 =>
  aI h6 v9 a1 fun v10 =>
  (if v10 = v3 then
  gR h6 a0 9 1 fun v12 =>
  gR h6 v12 2 0 fun v13 =>
  cV h6 v13 7 (f_X9_growAt v13 v3 h6) fun v14 h15 =>
  (if ¬ v14 = (-1) then
  gR h15 a0 9 1 fun v17 =>
  gR h15 v17 2 1 fun v18 =>
  gR h15 a0 9 0 fun v19 =>
  gR h15 v19 3 2 fun v20 =>
  aI h15 v20 a1 fun v21 =>
  sI h15 v18 v14 v21 fun h22 =>
  gR h22 a0 9 0 fun v23 =>
  gR h22 v23 3 4 fun v24 =>
  sI h22 v24 a1 v14 fun h25 =>
  some (v14, h25)
  else
  some ((-1), h15))
  else
  some ((-1), h6)))
theorem P_X11_makeNumberSpace (X : jx) (a0 : Nat) (a1 : Int32) (h : jh) : jv_P X M_X11_makeNumberSpace jeI [.ref (a0), .int (a1)] h (f_X11_makeNumberSpace a0 a1 h) := by
  refine jv_P.of (by decide) rfl (by simp [Value.category]) (Nat.le_of_ble_eq_true rfl) ?_
  show jv_O X M_X11_makeNumberSpace (h.1, h.2.1) jeI 0 [some (.ref (a0)), some (.int (a1)), none, none] [] h (f_X11_makeNumberSpace a0 a1 h)
  unfold f_X11_makeNumberSpace
  refine jv_aload_n (jv_dk t_X11_makeNumberSpace (k := 0) rfl) rfl rfl (Or.inr ⟨_, rfl⟩) ?_
  refine jv_gR (jv_dk t_X11_makeNumberSpace (k := 1) rfl) fl_X11_12 (fun v1 => ?_)
  refine jv_gR (jv_dk t_X11_makeNumberSpace (k := 2) rfl) fl_X11_131 (fun v2 => ?_)
  refine jv_iload_n (jv_dk t_X11_makeNumberSpace (k := 3) rfl) rfl rfl ?_
  refine jv_iaload (jv_dk t_X11_makeNumberSpace (k := 4) rfl) (fun v3 => ?_)
  refine jv_istore_n (L' := [some (.ref (a0)), some (.int (a1)), some (.int (v3)), none]) (jv_dk t_X11_makeNumberSpace (k := 5) rfl) rfl (Nat.le_of_ble_eq_true rfl) rfl ?_
  refine jv_aload_n (jv_dk t_X11_makeNumberSpace (k := 6) rfl) rfl rfl (Or.inr ⟨_, rfl⟩) ?_
  refine jv_gR (jv_dk t_X11_makeNumberSpace (k := 7) rfl) fl_X11_12 (fun v4 => ?_)
  refine jv_iload_n (jv_dk t_X11_makeNumberSpace (k := 8) rfl) rfl rfl ?_
  refine jv_callV (en' := jeI) (pv := jpI) (As := [.int (a1)]) (S := []) (jv_dk t_X11_makeNumberSpace (k := 9) rfl) (fun _ => rfl) lk_X11_140 me_X5_hasPower mv_X5_hasPower ⟨by decide, by decide⟩ rfl rfl rfl (Nat.le_of_ble_eq_true rfl) (P_X5_hasPower X v4 a1 h) (fun v5 h6 => ?_)
  show jv_O X M_X11_makeNumberSpace _ jeI 18 [some (.ref (a0)), some (.int (a1)), some (.int (v3)), none] [.int (v5)] h6 _
  refine jv_if_eq (tgt := 34) (jv_dk t_X11_makeNumberSpace (k := 10) rfl) rfl (fun c7 => ?_) (fun c7 => ?_)
  · refine jv_iconst (v := (-1)) (jv_dk t_X11_makeNumberSpace (k := 18) rfl) (by decide) ?_
    exact jv_iret (ty := .int) (jv_dk t_X11_makeNumberSpace (k := 19) rfl) rfl rfl rfl
  · show jv_O _ _ _ _ 21 _ _ _ _
    refine jv_aload_n (jv_dk t_X11_makeNumberSpace (k := 11) rfl) rfl rfl (Or.inr ⟨_, rfl⟩) ?_
    refine jv_gR (jv_dk t_X11_makeNumberSpace (k := 12) rfl) fl_X11_12 (fun v8 => ?_)
    refine jv_gR (jv_dk t_X11_makeNumberSpace (k := 13) rfl) fl_X11_159 (fun v9 => ?_)
    refine jv_iload_n (jv_dk t_X11_makeNumberSpace (k := 14) rfl) rfl rfl ?_
    refine jv_iaload (jv_dk t_X11_makeNumberSpace (k := 15) rfl) (fun v10 => ?_)
    refine jv_iload_n (jv_dk t_X11_makeNumberSpace (k := 16) rfl) rfl rfl ?_
    refine jv_icmp_eq (tgt := 36) (jv_dk t_X11_makeNumberSpace (k := 17) rfl) rfl (fun c11 => ?_) (fun c11 => ?_)
    · refine jv_aload_n (jv_dk t_X11_makeNumberSpace (k := 20) rfl) rfl rfl (Or.inr ⟨_, rfl⟩) ?_
      refine jv_gR (jv_dk t_X11_makeNumberSpace (k := 21) rfl) fl_X11_21 (fun v12 => ?_)
      refine jv_gR (jv_dk t_X11_makeNumberSpace (k := 22) rfl) fl_X11_52 (fun v13 => ?_)
      refine jv_iload_n (jv_dk t_X11_makeNumberSpace (k := 23) rfl) rfl rfl ?_
      refine jv_callV (en' := jeI) (pv := jpI) (As := [.int (v3)]) (S := []) (jv_dk t_X11_makeNumberSpace (k := 24) rfl) (fun _ => rfl) lk_X11_195 me_X9_growAt mv_X9_growAt ⟨by decide, by decide⟩ rfl rfl rfl (Nat.le_of_ble_eq_true rfl) (P_X9_growAt X v13 v3 h6) (fun v14 h15 => ?_)
      show jv_O X M_X11_makeNumberSpace _ jeI 47 [some (.ref (a0)), some (.int (a1)), some (.int (v3)), none] [.int (v14)] h15 _
      refine jv_istore_n (L' := [some (.ref (a0)), some (.int (a1)), some (.int (v3)), some (.int (v14))]) (jv_dk t_X11_makeNumberSpace (k := 25) rfl) rfl (Nat.le_of_ble_eq_true rfl) rfl ?_
      refine jv_iload_n (jv_dk t_X11_makeNumberSpace (k := 26) rfl) rfl rfl ?_
      refine jv_iconst (v := (-1)) (jv_dk t_X11_makeNumberSpace (k := 27) rfl) (by decide) ?_
      refine jv_icmp_ne (tgt := 55) (jv_dk t_X11_makeNumberSpace (k := 28) rfl) rfl (fun c16 => ?_) (fun c16 => ?_)
      · refine jv_aload_n (jv_dk t_X11_makeNumberSpace (k := 31) rfl) rfl rfl (Or.inr ⟨_, rfl⟩) ?_
        refine jv_gR (jv_dk t_X11_makeNumberSpace (k := 32) rfl) fl_X11_21 (fun v17 => ?_)
        refine jv_gR (jv_dk t_X11_makeNumberSpace (k := 33) rfl) fl_X11_58 (fun v18 => ?_)
        refine jv_iload_n (jv_dk t_X11_makeNumberSpace (k := 34) rfl) rfl rfl ?_
        refine jv_aload_n (jv_dk t_X11_makeNumberSpace (k := 35) rfl) rfl rfl (Or.inr ⟨_, rfl⟩) ?_
        refine jv_gR (jv_dk t_X11_makeNumberSpace (k := 36) rfl) fl_X11_12 (fun v19 => ?_)
        refine jv_gR (jv_dk t_X11_makeNumberSpace (k := 37) rfl) fl_X11_137 (fun v20 => ?_)
        refine jv_iload_n (jv_dk t_X11_makeNumberSpace (k := 38) rfl) rfl rfl ?_
        refine jv_iaload (jv_dk t_X11_makeNumberSpace (k := 39) rfl) (fun v21 => ?_)
        refine jv_iastore (jv_dk t_X11_makeNumberSpace (k := 40) rfl) (fun h22 => ?_)
        refine jv_aload_n (jv_dk t_X11_makeNumberSpace (k := 41) rfl) rfl rfl (Or.inr ⟨_, rfl⟩) ?_
        refine jv_gR (jv_dk t_X11_makeNumberSpace (k := 42) rfl) fl_X11_12 (fun v23 => ?_)
        refine jv_gR (jv_dk t_X11_makeNumberSpace (k := 43) rfl) fl_X11_159 (fun v24 => ?_)
        refine jv_iload_n (jv_dk t_X11_makeNumberSpace (k := 44) rfl) rfl rfl ?_
        refine jv_iload_n (jv_dk t_X11_makeNumberSpace (k := 45) rfl) rfl rfl ?_
        refine jv_iastore (jv_dk t_X11_makeNumberSpace (k := 46) rfl) (fun h25 => ?_)
        refine jv_iload_n (jv_dk t_X11_makeNumberSpace (k := 47) rfl) rfl rfl ?_
        exact jv_iret (ty := .int) (jv_dk t_X11_makeNumberSpace (k := 48) rfl) rfl rfl rfl
      · show jv_O _ _ _ _ 53 _ _ _ _
        refine jv_iconst (v := (-1)) (jv_dk t_X11_makeNumberSpace (k := 29) rfl) (by decide) ?_
        exact jv_iret (ty := .int) (jv_dk t_X11_makeNumberSpace (k := 30) rfl) rfl rfl rfl
    · show jv_O _ _ _ _ 34 _ _ _ _
      refine jv_iconst (v := (-1)) (jv_dk t_X11_makeNumberSpace (k := 18) rfl) (by decide) ?_
      exact jv_iret (ty := .int) (jv_dk t_X11_makeNumberSpace (k := 19) rfl) rfl rfl rfl
