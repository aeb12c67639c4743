def t0_X12_map : List (Nat × Instr × Nat) := [(0, .aload_n 0, 1), (1, .getstatic 277, 3), (4, .iload_n 1, 1), (5, .iload_n 2, 1), (6, .iload_n 3, 1), (7, .iload 4, 2), (9, .iload 5, 2), (11, .invokevirtual 264, 3), (14, .ireturn, 1)]
theorem t_X12_map : jv_dec cX12_map t0_X12_map = true := by decide +kernel
def M_X12_map : jm := (yX12_map, cX12_map, 6, (some .int), 7, 180, [])
theorem sl_X12_277 : jv_fl RX12 277 "SpaceWarden$Act" "MAP" "LSpaceWarden$Act;" := Or.inl (jv_at 835 (by decide +kernel))
def f_X12_map (a0 : Nat) (a1 : Int32) (a2 : Int32) (a3 : Int32) (a4 : Int32) (a5 : Int32) (h : jh) : Option (Int32 × jh) :=
  cV h a0 10 (f_X12_act a0 4 a1 a2 a3 a4 a5 h) fun v1 h2 =>
  some (v1, h2)
theorem P_X12_map (X : jx) (a0 : Nat) (a1 : Int32) (a2 : Int32) (a3 : Int32) (a4 : Int32) (a5 : Int32) (h : jh) : jv_P X M_X12_map jeI [.ref (a0), .int (a1), .int (a2), .int (a3), .int (a4), .int (a5)] h (f_X12_map a0 a1 a2 a3 a4 a5 h) := by
  refine jv_P.of (by decide) rfl (by simp [Value.category]) (Nat.le_of_ble_eq_true rfl) ?_
  show jv_O X M_X12_map (h.1, h.2.1) jeI 0 [some (.ref (a0)), some (.int (a1)), some (.int (a2)), some (.int (a3)), some (.int (a4)), some (.int (a5))] [] h (f_X12_map a0 a1 a2 a3 a4 a5 h)
  unfold f_X12_map
  refine jv_aload_n (jv_dk t_X12_map (k := 0) rfl) rfl rfl (Or.inr ⟨_, rfl⟩) ?_
  refine jv_gs (jv_dk t_X12_map (k := 1) rfl) sl_X12_277 (fun U hK => (hK.2.2.2.1 4 (by decide)).1) ?_
  refine jv_iload_n (jv_dk t_X12_map (k := 2) rfl) rfl rfl ?_
  refine jv_iload_n (jv_dk t_X12_map (k := 3) rfl) rfl rfl ?_
  refine jv_iload_n (jv_dk t_X12_map (k := 4) rfl) rfl rfl ?_
  refine jv_iload (jv_dk t_X12_map (k := 5) rfl) rfl ?_
  refine jv_iload (jv_dk t_X12_map (k := 6) rfl) rfl ?_
  refine jv_callV (en' := jeI) (pv := jpI) (As := [.ref (jv_ad X (4)), .int (a1), .int (a2), .int (a3), .int (a4), .int (a5)]) (S := []) (jv_dk t_X12_map (k := 7) rfl) (fun _ => rfl) (Or.inl lk_X12_264) me_X12_act mv_X12_act ⟨by decide, by decide⟩ rfl rfl rfl (Nat.le_of_ble_eq_true rfl) (P_X12_act X a0 4 a1 a2 a3 a4 a5 h) (fun v1 h2 => ?_)
  show jv_O X M_X12_map _ jeI 14 [some (.ref (a0)), some (.int (a1)), some (.int (a2)), some (.int (a3)), some (.int (a4)), some (.int (a5))] [.int (v1)] h2 _
  exact jv_iret (ty := .int) (jv_dk t_X12_map (k := 8) rfl) rfl rfl rfl
def t0_X12_become : List (Nat × Instr × Nat) := [(0, .aload_n 0, 1), (1, .getstatic 280, 3), (4, .iload_n 1, 1), (5, .iload_n 2, 1), (6, .iconst 0, 1), (7, .iconst 0, 1), (8, .iconst 0, 1), (9, .invokevirtual 264, 3), (12, .ireturn, 1)]
theorem t_X12_become : jv_dec cX12_become t0_X12_become = true := by decide +kernel
def M_X12_become : jm := (yX12_become, cX12_become, 3, (some .int), 7, 180, [])
theorem sl_X12_280 : jv_fl RX12 280 "SpaceWarden$Act" "BECOME" "LSpaceWarden$Act;" := Or.inl (jv_at 841 (by decide +kernel))
def f_X12_become (a0 : Nat) (a1 : Int32) (a2 : Int32) (h : jh) : Option (Int32 × jh) :=
  cV h a0 10 (f_X12_act a0 5 a1 a2 0 0 0 h) fun v1 h2 =>
  some (v1, h2)
theorem P_X12_become (X : jx) (a0 : Nat) (a1 : Int32) (a2 : Int32) (h : jh) : jv_P X M_X12_become jeI [.ref (a0), .int (a1), .int (a2)] h (f_X12_become a0 a1 a2 h) := by
  refine jv_P.of (by decide) rfl (by simp [Value.category]) (Nat.le_of_ble_eq_true rfl) ?_
  show jv_O X M_X12_become (h.1, h.2.1) jeI 0 [some (.ref (a0)), some (.int (a1)), some (.int (a2))] [] h (f_X12_become a0 a1 a2 h)
  unfold f_X12_become
  refine jv_aload_n (jv_dk t_X12_become (k := 0) rfl) rfl rfl (Or.inr ⟨_, rfl⟩) ?_
  refine jv_gs (jv_dk t_X12_become (k := 1) rfl) sl_X12_280 (fun U hK => (hK.2.2.2.1 5 (by decide)).1) ?_
  refine jv_iload_n (jv_dk t_X12_become (k := 2) rfl) rfl rfl ?_
  refine jv_iload_n (jv_dk t_X12_become (k := 3) rfl) rfl rfl ?_
  refine jv_iconst (v := 0) (jv_dk t_X12_become (k := 4) rfl) (by decide) ?_
  refine jv_iconst (v := 0) (jv_dk t_X12_become (k := 5) rfl) (by decide) ?_
  refine jv_iconst (v := 0) (jv_dk t_X12_become (k := 6) rfl) (by decide) ?_
  refine jv_callV (en' := jeI) (pv := jpI) (As := [.ref (jv_ad X (5)), .int (a1), .int (a2), .int (0), .int (0), .int (0)]) (S := []) (jv_dk t_X12_become (k := 7) rfl) (fun _ => rfl) (Or.inl lk_X12_264) me_X12_act mv_X12_act ⟨by decide, by decide⟩ rfl rfl rfl (Nat.le_of_ble_eq_true rfl) (P_X12_act X a0 5 a1 a2 0 0 0 h) (fun v1 h2 => ?_)
  show jv_O X M_X12_become _ jeI 12 [some (.ref (a0)), some (.int (a1)), some (.int (a2))] [.int (v1)] h2 _
  exact jv_iret (ty := .int) (jv_dk t_X12_become (k := 8) rfl) rfl rfl rfl
def t0_X12_mount : List (Nat × Instr × Nat) := [(0, .aload_n 0, 1), (1, .getstatic 283, 3), (4, .iload_n 1, 1), (5, .iload_n 2, 1), (6, .iload_n 3, 1), (7, .iconst 0, 1), (8, .iconst 0, 1), (9, .invokevirtual 264, 3), (12, .ireturn, 1)]
theorem t_X12_mount : jv_dec cX12_mount t0_X12_mount = true := by decide +kernel
def M_X12_mount : jm := (yX12_mount, cX12_mount, 4, (some .int), 7, 180, [])
theorem sl_X12_283 : jv_fl RX12 283 "SpaceWarden$Act" "MOUNT" "LSpaceWarden$Act;" := Or.inl (jv_at 847 (by decide +kernel))
def f_X12_mount (a0 : Nat) (a1 : Int32) (a2 : Int32) (a3 : Int32) (h : jh) : Option (Int32 × jh) :=
  cV h a0 10 (f_X12_act a0 6 a1 a2 a3 0 0 h) fun v1 h2 =>
  some (v1, h2)
theorem P_X12_mount (X : jx) (a0 : Nat) (a1 : Int32) (a2 : Int32) (a3 : Int32) (h : jh) : jv_P X M_X12_mount jeI [.ref (a0), .int (a1), .int (a2), .int (a3)] h (f_X12_mount a0 a1 a2 a3 h) := by
  refine jv_P.of (by decide) rfl (by simp [Value.category]) (Nat.le_of_ble_eq_true rfl) ?_
  show jv_O X M_X12_mount (h.1, h.2.1) jeI 0 [some (.ref (a0)), some (.int (a1)), some (.int (a2)), some (.int (a3))] [] h (f_X12_mount a0 a1 a2 a3 h)
  unfold f_X12_mount
  refine jv_aload_n (jv_dk t_X12_mount (k := 0) rfl) rfl rfl (Or.inr ⟨_, rfl⟩) ?_
  refine jv_gs (jv_dk t_X12_mount (k := 1) rfl) sl_X12_283 (fun U hK => (hK.2.2.2.1 6 (by decide)).1) ?_
  refine jv_iload_n (jv_dk t_X12_mount (k := 2) rfl) rfl rfl ?_
  refine jv_iload_n (jv_dk t_X12_mount (k := 3) rfl) rfl rfl ?_
  refine jv_iload_n (jv_dk t_X12_mount (k := 4) rfl) rfl rfl ?_
  refine jv_iconst (v := 0) (jv_dk t_X12_mount (k := 5) rfl) (by decide) ?_
  refine jv_iconst (v := 0) (jv_dk t_X12_mount (k := 6) rfl) (by decide) ?_
  refine jv_callV (en' := jeI) (pv := jpI) (As := [.ref (jv_ad X (6)), .int (a1), .int (a2), .int (a3), .int (0), .int (0)]) (S := []) (jv_dk t_X12_mount (k := 7) rfl) (fun _ => rfl) (Or.inl lk_X12_264) me_X12_act mv_X12_act ⟨by decide, by decide⟩ rfl rfl rfl (Nat.le_of_ble_eq_true rfl) (P_X12_act X a0 6 a1 a2 a3 0 0 h) (fun v1 h2 => ?_)
  show jv_O X M_X12_mount _ jeI 12 [some (.ref (a0)), some (.int (a1)), some (.int (a2)), some (.int (a3))] [.int (v1)] h2 _
  exact jv_iret (ty := .int) (jv_dk t_X12_mount (k := 8) rfl) rfl rfl rfl
def t0_X12_share : List (Nat × Instr × Nat) := [(0, .aload_n 0, 1), (1, .getstatic 286, 3), (4, .iload_n 1, 1), (5, .iconst 0, 1), (6, .iconst 0, 1), (7, .iconst 0, 1), (8, .iconst 0, 1), (9, .invokevirtual 264, 3), (12, .ireturn, 1)]
theorem t_X12_share : jv_dec cX12_share t0_X12_share = true := by decide +kernel
def M_X12_share : jm := (yX12_share, cX12_share, 2, (some .int), 7, 180, [])
theorem sl_X12_286 : jv_fl RX12 286 "SpaceWarden$Act" "SHARE" "LSpaceWarden$Act;" := Or.inl (jv_at 853 (by decide +kernel))
def f_X12_share (a0 : Nat) (a1 : Int32) (h : jh) : Option (Int32 × jh) :=
  cV h a0 10 (f_X12_act a0 10 a1 0 0 0 0 h) fun v1 h2 =>
  some (v1, h2)
theorem P_X12_share (X : jx) (a0 : Nat) (a1 : Int32) (h : jh) : jv_P X M_X12_share jeI [.ref (a0), .int (a1)] h (f_X12_share a0 a1 h) := by
  refine jv_P.of (by decide) rfl (by simp [Value.category]) (Nat.le_of_ble_eq_true rfl) ?_
  show jv_O X M_X12_share (h.1, h.2.1) jeI 0 [some (.ref (a0)), some (.int (a1))] [] h (f_X12_share a0 a1 h)
  unfold f_X12_share
  refine jv_aload_n (jv_dk t_X12_share (k := 0) rfl) rfl rfl (Or.inr ⟨_, rfl⟩) ?_
  refine jv_gs (jv_dk t_X12_share (k := 1) rfl) sl_X12_286 (fun U hK => (hK.2.2.2.1 10 (by decide)).1) ?_
  refine jv_iload_n (jv_dk t_X12_share (k := 2) rfl) rfl rfl ?_
  refine jv_iconst (v := 0) (jv_dk t_X12_share (k := 3) rfl) (by decide) ?_
  refine jv_iconst (v := 0) (jv_dk t_X12_share (k := 4) rfl) (by decide) ?_
  refine jv_iconst (v := 0) (jv_dk t_X12_share (k := 5) rfl) (by decide) ?_
  refine jv_iconst (v := 0) (jv_dk t_X12_share (k := 6) rfl) (by decide) ?_
  refine jv_callV (en' := jeI) (pv := jpI) (As := [.ref (jv_ad X (10)), .int (a1), .int (0), .int (0), .int (0), .int (0)]) (S := []) (jv_dk t_X12_share (k := 7) rfl) (fun _ => rfl) (Or.inl lk_X12_264) me_X12_act mv_X12_act ⟨by decide, by decide⟩ rfl rfl rfl (Nat.le_of_ble_eq_true rfl) (P_X12_act X a0 10 a1 0 0 0 0 h) (fun v1 h2 => ?_)
  show jv_O X M_X12_share _ jeI 12 [some (.ref (a0)), some (.int (a1))] [.int (v1)] h2 _
  exact jv_iret (ty := .int) (jv_dk t_X12_share (k := 8) rfl) rfl rfl rfl
def t0_X12_enter : List (Nat × Instr × Nat) := [(0, .aload_n 0, 1), (1, .getstatic 289, 3), (4, .iload_n 1, 1), (5, .iload_n 2, 1), (6, .iload_n 3, 1), (7, .iconst 0, 1), (8, .iconst 0, 1), (9, .invokevirtual 264, 3), (12, .ireturn, 1)]
theorem t_X12_enter : jv_dec cX12_enter t0_X12_enter = true := by decide +kernel
def M_X12_enter : jm := (yX12_enter, cX12_enter, 4, (some .int), 7, 180, [])
theorem sl_X12_289 : jv_fl RX12 289 "SpaceWarden$Act" "ENTER" "LSpaceWarden$Act;" := Or.inl (jv_at 859 (by decide +kernel))
def f_X12_enter (a0 : Nat) (a1 : Int32) (a2 : Int32) (a3 : Int32) (h : jh) : Option (Int32 × jh) :=
  cV h a0 10 (f_X12_act a0 7 a1 a2 a3 0 0 h) fun v1 h2 =>
  some (v1, h2)
theorem P_X12_enter (X : jx) (a0 : Nat) (a1 : Int32) (a2 : Int32) (a3 : Int32) (h : jh) : jv_P X M_X12_enter jeI [.ref (a0), .int (a1), .int (a2), .int (a3)] h (f_X12_enter a0 a1 a2 a3 h) := by
  refine jv_P.of (by decide) rfl (by simp [Value.category]) (Nat.le_of_ble_eq_true rfl) ?_
  show jv_O X M_X12_enter (h.1, h.2.1) jeI 0 [some (.ref (a0)), some (.int (a1)), some (.int (a2)), some (.int (a3))] [] h (f_X12_enter a0 a1 a2 a3 h)
  unfold f_X12_enter
  refine jv_aload_n (jv_dk t_X12_enter (k := 0) rfl) rfl rfl (Or.inr ⟨_, rfl⟩) ?_
  refine jv_gs (jv_dk t_X12_enter (k := 1) rfl) sl_X12_289 (fun U hK => (hK.2.2.2.1 7 (by decide)).1) ?_
  refine jv_iload_n (jv_dk t_X12_enter (k := 2) rfl) rfl rfl ?_
  refine jv_iload_n (jv_dk t_X12_enter (k := 3) rfl) rfl rfl ?_
  refine jv_iload_n (jv_dk t_X12_enter (k := 4) rfl) rfl rfl ?_
  refine jv_iconst (v := 0) (jv_dk t_X12_enter (k := 5) rfl) (by decide) ?_
  refine jv_iconst (v := 0) (jv_dk t_X12_enter (k := 6) rfl) (by decide) ?_
  refine jv_callV (en' := jeI) (pv := jpI) (As := [.ref (jv_ad X (7)), .int (a1), .int (a2), .int (a3), .int (0), .int (0)]) (S := []) (jv_dk t_X12_enter (k := 7) rfl) (fun _ => rfl) (Or.inl lk_X12_264) me_X12_act mv_X12_act ⟨by decide, by decide⟩ rfl rfl rfl (Nat.le_of_ble_eq_true rfl) (P_X12_act X a0 7 a1 a2 a3 0 0 h) (fun v1 h2 => ?_)
  show jv_O X M_X12_enter _ jeI 12 [some (.ref (a0)), some (.int (a1)), some (.int (a2)), some (.int (a3))] [.int (v1)] h2 _
  exact jv_iret (ty := .int) (jv_dk t_X12_enter (k := 8) rfl) rfl rfl rfl
def t0_X12_end : List (Nat × Instr × Nat) := [(0, .aload_n 0, 1), (1, .getstatic 292, 3), (4, .iload_n 1, 1), (5, .iconst 0, 1), (6, .iconst 0, 1), (7, .iconst 0, 1), (8, .iconst 0, 1), (9, .invokevirtual 264, 3), (12, .ireturn, 1)]
theorem t_X12_end : jv_dec cX12_end t0_X12_end = true := by decide +kernel
def M_X12_end : jm := (yX12_end, cX12_end, 2, (some .int), 7, 180, [])
theorem sl_X12_292 : jv_fl RX12 292 "SpaceWarden$Act" "END" "LSpaceWarden$Act;" := Or.inl (jv_at 865 (by decide +kernel))
def f_X12_end (a0 : Nat) (a1 : Int32) (h : jh) : Option (Int32 × jh) :=
  cV h a0 10 (f_X12_act a0 8 a1 0 0 0 0 h) fun v1 h2 =>
  some (v1, h2)
theorem P_X12_end (X : jx) (a0 : Nat) (a1 : Int32) (h : jh) : jv_P X M_X12_end jeI [.ref (a0), .int (a1)] h (f_X12_end a0 a1 h) := by
  refine jv_P.of (by decide) rfl (by simp [Value.category]) (Nat.le_of_ble_eq_true rfl) ?_
  show jv_O X M_X12_end (h.1, h.2.1) jeI 0 [some (.ref (a0)), some (.int (a1))] [] h (f_X12_end a0 a1 h)
  unfold f_X12_end
  refine jv_aload_n (jv_dk t_X12_end (k := 0) rfl) rfl rfl (Or.inr ⟨_, rfl⟩) ?_
  refine jv_gs (jv_dk t_X12_end (k := 1) rfl) sl_X12_292 (fun U hK => (hK.2.2.2.1 8 (by decide)).1) ?_
  refine jv_iload_n (jv_dk t_X12_end (k := 2) rfl) rfl rfl ?_
  refine jv_iconst (v := 0) (jv_dk t_X12_end (k := 3) rfl) (by decide) ?_
  refine jv_iconst (v := 0) (jv_dk t_X12_end (k := 4) rfl) (by decide) ?_
  refine jv_iconst (v := 0) (jv_dk t_X12_end (k := 5) rfl) (by decide) ?_
  refine jv_iconst (v := 0) (jv_dk t_X12_end (k := 6) rfl) (by decide) ?_
  refine jv_callV (en' := jeI) (pv := jpI) (As := [.ref (jv_ad X (8)), .int (a1), .int (0), .int (0), .int (0), .int (0)]) (S := []) (jv_dk t_X12_end (k := 7) rfl) (fun _ => rfl) (Or.inl lk_X12_264) me_X12_act mv_X12_act ⟨by decide, by decide⟩ rfl rfl rfl (Nat.le_of_ble_eq_true rfl) (P_X12_act X a0 8 a1 0 0 0 0 h) (fun v1 h2 => ?_)
  show jv_O X M_X12_end _ jeI 12 [some (.ref (a0)), some (.int (a1))] [.int (v1)] h2 _
  exact jv_iret (ty := .int) (jv_dk t_X12_end (k := 8) rfl) rfl rfl rfl
def t0_X12_kill : List (Nat × Instr × Nat) := [(0, .aload_n 0, 1), (1, .getstatic 295, 3), (4, .iload_n 1, 1), (5, .iload_n 2, 1), (6, .iconst 0, 1), (7, .iconst 0, 1), (8, .iconst 0, 1), (9, .invokevirtual 264, 3), (12, .ireturn, 1)]
theorem t_X12_kill : jv_dec cX12_kill t0_X12_kill = true := by decide +kernel
def M_X12_kill : jm := (yX12_kill, cX12_kill, 3, (some .int), 7, 180, [])
theorem sl_X12_295 : jv_fl RX12 295 "SpaceWarden$Act" "KILL" "LSpaceWarden$Act;" := Or.inl (jv_at 871 (by decide +kernel))
def f_X12_kill (a0 : Nat) (a1 : Int32) (a2 : Int32) (h : jh) : Option (Int32 × jh) :=
  cV h a0 10 (f_X12_act a0 9 a1 a2 0 0 0 h) fun v1 h2 =>
  some (v1, h2)
theorem P_X12_kill (X : jx) (a0 : Nat) (a1 : Int32) (a2 : Int32) (h : jh) : jv_P X M_X12_kill jeI [.ref (a0), .int (a1), .int (a2)] h (f_X12_kill a0 a1 a2 h) := by
  refine jv_P.of (by decide) rfl (by simp [Value.category]) (Nat.le_of_ble_eq_true rfl) ?_
  show jv_O X M_X12_kill (h.1, h.2.1) jeI 0 [some (.ref (a0)), some (.int (a1)), some (.int (a2))] [] h (f_X12_kill a0 a1 a2 h)
  unfold f_X12_kill
  refine jv_aload_n (jv_dk t_X12_kill (k := 0) rfl) rfl rfl (Or.inr ⟨_, rfl⟩) ?_
  refine jv_gs (jv_dk t_X12_kill (k := 1) rfl) sl_X12_295 (fun U hK => (hK.2.2.2.1 9 (by decide)).1) ?_
  refine jv_iload_n (jv_dk t_X12_kill (k := 2) rfl) rfl rfl ?_
  refine jv_iload_n (jv_dk t_X12_kill (k := 3) rfl) rfl rfl ?_
  refine jv_iconst (v := 0) (jv_dk t_X12_kill (k := 4) rfl) (by decide) ?_
  refine jv_iconst (v := 0) (jv_dk t_X12_kill (k := 5) rfl) (by decide) ?_
  refine jv_iconst (v := 0) (jv_dk t_X12_kill (k := 6) rfl) (by decide) ?_
  refine jv_callV (en' := jeI) (pv := jpI) (As := [.ref (jv_ad X (9)), .int (a1), .int (a2), .int (0), .int (0), .int (0)]) (S := []) (jv_dk t_X12_kill (k := 7) rfl) (fun _ => rfl) (Or.inl lk_X12_264) me_X12_act mv_X12_act ⟨by decide, by decide⟩ rfl rfl rfl (Nat.le_of_ble_eq_true rfl) (P_X12_act X a0 9 a1 a2 0 0 0 h) (fun v1 h2 => ?_)
  show jv_O X M_X12_kill _ jeI 12 [some (.ref (a0)), some (.int (a1)), some (.int (a2))] [.int (v1)] h2 _
  exact jv_iret (ty := .int) (jv_dk t_X12_kill (k := 8) rfl) rfl rfl rfl
def t0_X12_undo : List (Nat × Instr × Nat) := [(0, .aload_n 0, 1), (1, .getfield 10, 3), (4, .invokevirtual 307, 3), (7, .ireturn, 1)]
theorem t_X12_undo : jv_dec cX12_undo t0_X12_undo = true := by decide +kernel
def M_X12_undo : jm := (yX12_undo, cX12_undo, 1, (some .int), 6, 145, [])
theorem lk_X12_307 : jv_lk RX12 307 M_X8_undoLast := Or.inr ⟨"SpaceWarden", (jv_at 877 (by decide +kernel))⟩
set_option maxRecDepth 20000 in
theorem me_X8_undoLast : jv_me M_X8_undoLast 0 := ⟨(jv_in4 (List.mem_of_getElem? (i := 0) rfl)), (jv_at 162 (by decide +kernel)), ⟨by decide, by decide⟩, by decide +kernel⟩
theorem mv_X8_undoLast : jv_mv M_X8_undoLast := ⟨(jv_at 879 (by decide +kernel)), (jv_at 60 (by decide +kernel))⟩
def f_X12_undo (a0 : Nat) (h : jh) : Option (Int32 × jh) :=
  gR h a0 10 0 fun v1 =>
  cV h v1 6 (f_X8_undoLast v1 h) fun v2 h3 =>
  some (v2, h3)
theorem P_X12_undo (X : jx) (a0 : Nat) (h : jh) : jv_P X M_X12_undo jeI [.ref (a0)] h (f_X12_undo a0 h) := by
  refine jv_P.of (by decide) rfl (by simp [Value.category]) (Nat.le_of_ble_eq_true rfl) ?_
  show jv_O X M_X12_undo (h.1, h.2.1) jeI 0 [some (.ref (a0))] [] h (f_X12_undo a0 h)
  unfold f_X12_undo
  refine jv_aload_n (jv_dk t_X12_undo (k := 0) rfl) rfl rfl (Or.inr ⟨_, rfl⟩) ?_
  refine jv_gR (jv_dk t_X12_undo (k := 1) rfl) fl_X12_10 (fun v1 => ?_)
  refine jv_callV (en' := jeI) (pv := jpI) (As := []) (S := []) (jv_dk t_X12_undo (k := 2) rfl) (fun _ => rfl) lk_X12_307 me_X8_undoLast mv_X8_undoLast ⟨by decide, by decide⟩ rfl rfl rfl (Nat.le_of_ble_eq_true rfl) (P_X8_undoLast X v1 h) (fun v2 h3 => ?_)
  show jv_O X M_X12_undo _ jeI 7 [some (.ref (a0))] [.int (v2)] h3 _
  exact jv_iret (ty := .int) (jv_dk t_X12_undo (k := 3) rfl) rfl rfl rfl
def t0_X12_roamsOf : List (Nat × Instr × Nat) := [(0, .aload_n 0, 1), (1, .getfield 29, 3), (4, .aload_n 0, 1), (5, .getfield 10, 3), (8, .getfield 82, 3), (11, .iload_n 1, 1), (12, .invokevirtual 319, 3), (15, .iconst 0, 1), (16, .istore_n 2, 1), (17, .iconst 0, 1), (18, .istore_n 3, 1), (19, .iload_n 3, 1), (20, .bipush 8, 2), (22, .if_icmp .ge 27, 3), (25, .aload_n 0, 1), (26, .getfield 29, 3), (29, .iload_n 3, 1), (30, .invokevirtual 323, 3), (33, .iconst (-1), 1), (34, .if_icmp .eq 9, 3), (37, .iload_n 2, 1), (38, .iconst 1, 1), (39, .iload_n 3, 1), (40, .ishl, 1), (41, .ior, 1), (42, .istore_n 2, 1), (43, .iinc 3 1, 3), (46, .goto (-27), 3), (49, .iload_n 2, 1), (50, .ireturn, 1)]
theorem t_X12_roamsOf : jv_dec cX12_roamsOf t0_X12_roamsOf = true := by decide +kernel
def M_X12_roamsOf : jm := (yX12_roamsOf, cX12_roamsOf, 4, (some .int), 4, 101, [])
theorem lk_X12_319 : jv_lk RX12 319 M_X7_walk := Or.inr ⟨"SpaceWarden", (jv_at 1266 (by decide +kernel))⟩
set_option maxRecDepth 20000 in
theorem me_X7_walk : jv_me M_X7_walk 2 := ⟨(jv_in5 (List.mem_of_getElem? (i := 149) rfl)), (jv_at 170 (by decide +kernel)), ⟨by decide, by decide⟩, by decide +kernel⟩
theorem lk_X12_323 : jv_lk RX12 323 M_X7_stepsTo := Or.inr ⟨"SpaceWarden", (jv_at 1282 (by decide +kernel))⟩
set_option maxRecDepth 20000 in
theorem me_X7_stepsTo : jv_me M_X7_stepsTo 1 := ⟨(jv_in5 (List.mem_of_getElem? (i := 165) rfl)), (jv_at 170 (by decide +kernel)), ⟨by decide, by decide⟩, by decide +kernel⟩
theorem mv_X7_stepsTo : jv_mv M_X7_stepsTo := ⟨(jv_at 1284 (by decide +kernel)), (jv_at 89 (by decide +kernel))⟩
theorem mv_X7_walk : jv_mv M_X7_walk := ⟨(jv_at 1268 (by decide +kernel)), (jv_at 86 (by decide +kernel))⟩
def f_X12_roamsOf_h19 (K19 : Int32 → jh → Option (Int32 × jh)) (R19 : Nat → Int32 → Int32 → jh → Option (Int32 × jh)) (x0 : Nat) (x2 : Int32) (x3 : Int32) (h : jh) : Option (Int32 × jh) :=
  (if 8 ≤ x3 then
  K19 x2 h
  else
  gR h x0 10 3 fun v6 =>
  cV h v6 5 (f_X7_stepsTo v6 x3 h) fun v7 h8 =>
  (if v7 = (-1) then
  R19 x0 x2 (x3 + 1) h8
  else
  R19 x0 (x2 ||| (1 <<< (x3 &&& 31))) (x3 + 1) h8))
theorem o_f_X12_roamsOf_h19 {X : jx} {b0 : Nat × Nat} {K19 : Int32 → jh → Option (Int32 × jh)} (hK19 : ∀ (x2 : Int32) (h : jh), jv_O X M_X12_roamsOf b0 jeI 49 [none, none, some (.int (x2)), none] [] h (K19 x2 h)) : ∀ (x0 : Nat) (x2 : Int32) (x3 : Int32) (h : jh), jv_O X M_X12_roamsOf b0 jeI 19 [some (.ref (x0)), none, some (.int (x2)), some (.int (x3))] [] h (jlp3 (f_X12_roamsOf_h19 K19) jfu x0 x2 x3 h) := by
  refine jlp3_ok (P := fun x0 x2 x3 h o => jv_O X M_X12_roamsOf b0 jeI 19 [some (.ref (x0)), none, some (.int (x2)), some (.int (x3))] [] h o) (fun R19 hR19 => ?_) (fun _ _ _ _  => jv_none rfl) jfu
  intro x0 x2 x3 h
  unfold f_X12_roamsOf_h19
  refine jv_iload_n (jv_dk t_X12_roamsOf (k := 11) rfl) rfl rfl ?_
  refine jv_bipush (v := 8) (jv_dk t_X12_roamsOf (k := 12) rfl) (by decide) ?_
  refine jv_icmp_ge (tgt := 49) (jv_dk t_X12_roamsOf (k := 13) rfl) rfl (fun c5 => ?_) (fun c5 => ?_)
  · refine jv_le_row (jv_le_n (jv_le_n (jv_le_s (jv_le_n (jv_le_nil))))) ?_
    exact hK19 _ _ 
  · show jv_O _ _ _ _ 25 _ _ _ _
    refine jv_aload_n (jv_dk t_X12_roamsOf (k := 14) rfl) rfl rfl (Or.inr ⟨_, rfl⟩) ?_
    refine jv_gR (jv_dk t_X12_roamsOf (k := 15) rfl) fl_X12_29 (fun v6 => ?_)
    refine jv_iload_n (jv_dk t_X12_roamsOf (k := 16) rfl) rfl rfl ?_
    refine jv_callV (en' := jeI) (pv := jpI) (As := [.int (x3)]) (S := []) (jv_dk t_X12_roamsOf (k := 17) rfl) (fun _ => rfl) lk_X12_323 me_X7_stepsTo mv_X7_stepsTo ⟨by decide, by decide⟩ rfl rfl rfl (Nat.le_of_ble_eq_true rfl) (P_X7_stepsTo X v6 x3 h) (fun v7 h8 => ?_)
    show jv_O X M_X12_roamsOf _ jeI 33 [some (.ref (x0)), none, some (.int (x2)), some (.int (x3))] [.int (v7)] h8 _
    refine jv_iconst (v := (-1)) (jv_dk t_X12_roamsOf (k := 18) rfl) (by decide) ?_
    refine jv_icmp_eq (tgt := 43) (jv_dk t_X12_roamsOf (k := 19) rfl) rfl (fun c9 => ?_) (fun c9 => ?_)
    · refine jv_iinc (v := 1) (L' := [some (.ref (x0)), none, some (.int (x2)), some (.int (x3 + 1))]) (jv_dk t_X12_roamsOf (k := 26) rfl) rfl (by decide) rfl ?_
      refine jv_goto (tgt := 19) (jv_dk t_X12_roamsOf (k := 27) rfl) rfl ?_
      exact hR19 _ _ _ _ 
    · show jv_O _ _ _ _ 37 _ _ _ _
      refine jv_iload_n (jv_dk t_X12_roamsOf (k := 20) rfl) rfl rfl ?_
      refine jv_iconst (v := 1) (jv_dk t_X12_roamsOf (k := 21) rfl) (by decide) ?_
      refine jv_iload_n (jv_dk t_X12_roamsOf (k := 22) rfl) rfl rfl ?_
      refine jv_ishl (jv_dk t_X12_roamsOf (k := 23) rfl) ?_
      refine jv_ior (jv_dk t_X12_roamsOf (k := 24) rfl) ?_
      refine jv_istore_n (L' := [some (.ref (x0)), none, some (.int (x2 ||| (1 <<< (x3 &&& 31)))), some (.int (x3))]) (jv_dk t_X12_roamsOf (k := 25) rfl) rfl (Nat.le_of_ble_eq_true rfl) rfl ?_
      refine jv_iinc (v := 1) (L' := [some (.ref (x0)), none, some (.int (x2 ||| (1 <<< (x3 &&& 31)))), some (.int (x3 + 1))]) (jv_dk t_X12_roamsOf (k := 26) rfl) rfl (by decide) rfl ?_
      refine jv_goto (tgt := 19) (jv_dk t_X12_roamsOf (k := 27) rfl) rfl ?_
      exact hR19 _ _ _ _ 
def f_X12_roamsOf (a0 : Nat) (a1 : Int32) (h : jh) : Option (Int32 × jh) :=
  gR h a0 10 3 fun v1 =>
  gR h a0 10 0 fun v2 =>
  gR h v2 6 0 fun v3 =>
  cV h v1 5 (f_X7_walk v1 v3 a1 h) fun _ h4 =>
  jlp3 (f_X12_roamsOf_h19 (fun y11 h10 =>
  some (y11, h10))) jfu a0 0 0 h4
theorem P_X12_roamsOf (X : jx) (a0 : Nat) (a1 : Int32) (h : jh) : jv_P X M_X12_roamsOf jeI [.ref (a0), .int (a1)] h (f_X12_roamsOf a0 a1 h) := by
  refine jv_P.of (by decide) rfl (by simp [Value.category]) (Nat.le_of_ble_eq_true rfl) ?_
  show jv_O X M_X12_roamsOf (h.1, h.2.1) jeI 0 [some (.ref (a0)), some (.int (a1)), none, none] [] h (f_X12_roamsOf a0 a1 h)
  unfold f_X12_roamsOf
  refine jv_aload_n (jv_dk t_X12_roamsOf (k := 0) rfl) rfl rfl (Or.inr ⟨_, rfl⟩) ?_
  refine jv_gR (jv_dk t_X12_roamsOf (k := 1) rfl) fl_X12_29 (fun v1 => ?_)
  refine jv_aload_n (jv_dk t_X12_roamsOf (k := 2) rfl) rfl rfl (Or.inr ⟨_, rfl⟩) ?_
  refine jv_gR (jv_dk t_X12_roamsOf (k := 3) rfl) fl_X12_10 (fun v2 => ?_)
  refine jv_gR (jv_dk t_X12_roamsOf (k := 4) rfl) fl_X12_82 (fun v3 => ?_)
  refine jv_iload_n (jv_dk t_X12_roamsOf (k := 5) rfl) rfl rfl ?_
  refine jv_callV (en' := jeV) (pv := jpV) (As := [.ref (v3), .int (a1)]) (S := []) (jv_dk t_X12_roamsOf (k := 6) rfl) (fun _ => rfl) lk_X12_319 me_X7_walk mv_X7_walk ⟨by decide, by decide⟩ rfl rfl rfl (Nat.le_of_ble_eq_true rfl) (P_X7_walk X v1 v3 a1 h) (fun _ h4 => ?_)
  show jv_O X M_X12_roamsOf _ jeI 15 [some (.ref (a0)), some (.int (a1)), none, none] [] h4 _
  refine jv_iconst (v := 0) (jv_dk t_X12_roamsOf (k := 7) rfl) (by decide) ?_
  refine jv_istore_n (L' := [some (.ref (a0)), some (.int (a1)), some (.int (0)), none]) (jv_dk t_X12_roamsOf (k := 8) rfl) rfl (Nat.le_of_ble_eq_true rfl) rfl ?_
  refine jv_iconst (v := 0) (jv_dk t_X12_roamsOf (k := 9) rfl) (by decide) ?_
  refine jv_istore_n (L' := [some (.ref (a0)), some (.int (a1)), some (.int (0)), some (.int (0))]) (jv_dk t_X12_roamsOf (k := 10) rfl) rfl (Nat.le_of_ble_eq_true rfl) rfl ?_
  refine jv_le_row (jv_le_s (jv_le_n (jv_le_s (jv_le_s (jv_le_nil))))) ?_
  refine o_f_X12_roamsOf_h19 (fun y11 h10 => ?_) _ _ _ _ 
  show jv_O X M_X12_roamsOf _ jeI 49 [none, none, some (.int (y11)), none] [] h10 _
  refine jv_iload_n (jv_dk t_X12_roamsOf (k := 28) rfl) rfl rfl ?_
  exact jv_iret (ty := .int) (jv_dk t_X12_roamsOf (k := 29) rfl) rfl rfl rfl
def t0_X12_set : List (Nat × Instr × Nat) := [(0, .aload_n 0, 1), (1, .iload_n 1, 1), (2, .invokevirtual 149, 3), (5, .iload_n 2, 1), (6, .tableswitch 56 0 2 #[26, 38, 50], 26), (32, .aload_n 0, 1), (33, .getfield 10, 3), (36, .getfield 82, 3), (39, .iload_n 1, 1), (40, .invokevirtual 310, 3), (43, .ireturn, 1), (44, .aload_n 0, 1), (45, .getfield 10, 3), (48, .getfield 82, 3), (51, .iload_n 1, 1), (52, .invokevirtual 313, 3), (55, .ireturn, 1), (56, .aload_n 0, 1), (57, .iload_n 1, 1), (58, .invokevirtual 316, 3), (61, .ireturn, 1), (62, .new 146, 3), (65, .dup, 1), (66, .invokespecial 148, 3), (69, .athrow, 1)]
theorem t_X12_set : jv_dec cX12_set t0_X12_set = true := by decide +kernel
def M_X12_set : jm := (yX12_set, cX12_set, 3, (some .int), 7, 124, [])
theorem lk_X12_316 : Cond.methodLink RX12 316 M_X12_roamsOf.1 ∈ lw_tbl := (jv_at 1262 (by decide +kernel))
set_option maxRecDepth 20000 in
theorem me_X12_roamsOf : jv_me M_X12_roamsOf 1 := ⟨(jv_in5 (List.mem_of_getElem? (i := 145) rfl)), (jv_at 161 (by decide +kernel)), ⟨by decide, by decide⟩, by decide +kernel⟩
theorem mv_X12_roamsOf : jv_mv M_X12_roamsOf := ⟨(jv_at 1264 (by decide +kernel)), (jv_at 85 (by decide +kernel))⟩
theorem lk_X12_313 : jv_lk RX12 313 M_X11_reachOf := Or.inr ⟨"SpaceWarden", (jv_at 1258 (by decide +kernel))⟩
set_option maxRecDepth 20000 in
theorem me_X11_reachOf : jv_me M_X11_reachOf 1 := ⟨(jv_in5 (List.mem_of_getElem? (i := 141) rfl)), (jv_at 163 (by decide +kernel)), ⟨by decide, by decide⟩, by decide +kernel⟩
theorem mv_X11_reachOf : jv_mv M_X11_reachOf := ⟨(jv_at 1260 (by decide +kernel)), (jv_at 84 (by decide +kernel))⟩
theorem lk_X12_310 : jv_lk RX12 310 M_X11_fallOf := Or.inr ⟨"SpaceWarden", (jv_at 1257 (by decide +kernel))⟩
def f_X12_set (a0 : Nat) (a1 : Int32) (a2 : Int32) (h : jh) : Option ((Int32 ⊕ String) × jh) :=
  cVX h a0 10 (f_X12_needProcess a0 a1 h) fun _ h1 =>
  (if a2 = 0 then
  gR h1 a0 10 0 fun v11 =>
  gR h1 v11 6 0 fun v12 =>
  cV h1 v12 9 (f_X11_fallOf v12 a1 h1) fun v13 h14 =>
  some (.inl v13, h14)
  else
  (if a2 = 1 then
  gR h1 a0 10 0 fun v7 =>
  gR h1 v7 6 0 fun v8 =>
  cV h1 v8 9 (f_X11_reachOf v8 a1 h1) fun v9 h10 =>
  some (.inl v9, h10)
  else
  (if a2 = 2 then
  cV h1 a0 10 (f_X12_roamsOf a0 a1 h1) fun v5 h6 =>
  some (.inl v5, h6)
  else
  some (.inr "java/util/NoSuchElementException", jt h1))))
theorem P_X12_set (X : jx) (a0 : Nat) (a1 : Int32) (a2 : Int32) (h : jh) : jv_P X M_X12_set jeIX [.ref (a0), .int (a1), .int (a2)] h (f_X12_set a0 a1 a2 h) := by
  refine jv_P.of (by decide) rfl (by simp [Value.category]) (Nat.le_of_ble_eq_true rfl) ?_
  show jv_O X M_X12_set (h.1, h.2.1) jeIX 0 [some (.ref (a0)), some (.int (a1)), some (.int (a2))] [] h (f_X12_set a0 a1 a2 h)
  unfold f_X12_set
  refine jv_aload_n (jv_dk t_X12_set (k := 0) rfl) rfl rfl (Or.inr ⟨_, rfl⟩) ?_
  refine jv_iload_n (jv_dk t_X12_set (k := 1) rfl) rfl rfl ?_
  refine jv_callVX (en' := jeVX) (pv := jpV) (As := [.int (a1)]) (S := []) (jv_dk t_X12_set (k := 2) rfl) (fun _ => rfl) (fun _ => rfl) (fun _ => rfl) rfl lk_X12_149 me_X12_needProcess mv_X12_needProcess ⟨by decide, by decide⟩ rfl rfl rfl (Nat.le_of_ble_eq_true rfl) (P_X12_needProcess X a0 a1 h) (fun _ h1 => ?_)
  show jv_O X M_X12_set _ jeIX 5 [some (.ref (a0)), some (.int (a1)), some (.int (a2))] [] h1 _
  refine jv_iload_n (jv_dk t_X12_set (k := 3) rfl) rfl rfl ?_
  by_cases c2 : a2 = 0
  · rw [if_pos c2]
    refine jv_tbl (tgt := 32) (jv_dk t_X12_set (k := 4) rfl) (by rw [c2] <;> decide) (by rw [c2] <;> decide) (by rw [c2] <;> rfl) rfl ?_
    refine jv_aload_n (jv_dk t_X12_set (k := 5) rfl) rfl rfl (Or.inr ⟨_, rfl⟩) ?_
    refine jv_gR (jv_dk t_X12_set (k := 6) rfl) fl_X12_10 (fun v11 => ?_)
    refine jv_gR (jv_dk t_X12_set (k := 7) rfl) fl_X12_82 (fun v12 => ?_)
    refine jv_iload_n (jv_dk t_X12_set (k := 8) rfl) rfl rfl ?_
    refine jv_callV (en' := jeI) (pv := jpI) (As := [.int (a1)]) (S := []) (jv_dk t_X12_set (k := 9) rfl) (fun _ => rfl) lk_X12_310 me_X11_fallOf mv_X11_fallOf ⟨by decide, by decide⟩ rfl rfl rfl (Nat.le_of_ble_eq_true rfl) (P_X11_fallOf X v12 a1 h1) (fun v13 h14 => ?_)
    show jv_O X M_X12_set _ jeIX 43 [some (.ref (a0)), some (.int (a1)), some (.int (a2))] [.int (v13)] h14 _
    exact jv_iret (ty := .int) (jv_dk t_X12_set (k := 10) rfl) rfl rfl rfl
  rw [if_neg c2]
  by_cases c3 : a2 = 1
  · rw [if_pos c3]
    refine jv_tbl (tgt := 44) (jv_dk t_X12_set (k := 4) rfl) (by rw [c3] <;> decide) (by rw [c3] <;> decide) (by rw [c3] <;> rfl) rfl ?_
    refine jv_aload_n (jv_dk t_X12_set (k := 11) rfl) rfl rfl (Or.inr ⟨_, rfl⟩) ?_
    refine jv_gR (jv_dk t_X12_set (k := 12) rfl) fl_X12_10 (fun v7 => ?_)
    refine jv_gR (jv_dk t_X12_set (k := 13) rfl) fl_X12_82 (fun v8 => ?_)
    refine jv_iload_n (jv_dk t_X12_set (k := 14) rfl) rfl rfl ?_
    refine jv_callV (en' := jeI) (pv := jpI) (As := [.int (a1)]) (S := []) (jv_dk t_X12_set (k := 15) rfl) (fun _ => rfl) lk_X12_313 me_X11_reachOf mv_X11_reachOf ⟨by decide, by decide⟩ rfl rfl rfl (Nat.le_of_ble_eq_true rfl) (P_X11_reachOf X v8 a1 h1) (fun v9 h10 => ?_)
    show jv_O X M_X12_set _ jeIX 55 [some (.ref (a0)), some (.int (a1)), some (.int (a2))] [.int (v9)] h10 _
    exact jv_iret (ty := .int) (jv_dk t_X12_set (k := 16) rfl) rfl rfl rfl
  rw [if_neg c3]
  by_cases c4 : a2 = 2
  · rw [if_pos c4]
    refine jv_tbl (tgt := 56) (jv_dk t_X12_set (k := 4) rfl) (by rw [c4] <;> decide) (by rw [c4] <;> decide) (by rw [c4] <;> rfl) rfl ?_
    refine jv_aload_n (jv_dk t_X12_set (k := 17) rfl) rfl rfl (Or.inr ⟨_, rfl⟩) ?_
    refine jv_iload_n (jv_dk t_X12_set (k := 18) rfl) rfl rfl ?_
    refine jv_callV (en' := jeI) (pv := jpI) (As := [.int (a1)]) (S := []) (jv_dk t_X12_set (k := 19) rfl) (fun _ => rfl) (Or.inl lk_X12_316) me_X12_roamsOf mv_X12_roamsOf ⟨by decide, by decide⟩ rfl rfl rfl (Nat.le_of_ble_eq_true rfl) (P_X12_roamsOf X a0 a1 h1) (fun v5 h6 => ?_)
    show jv_O X M_X12_set _ jeIX 61 [some (.ref (a0)), some (.int (a1)), some (.int (a2))] [.int (v5)] h6 _
    exact jv_iret (ty := .int) (jv_dk t_X12_set (k := 20) rfl) rfl rfl rfl
  rw [if_neg c4]
  have e_c2 := jv_ne (x := a2) (k := 0) (by decide) (by decide) c2
  have e_c3 := jv_ne (x := a2) (k := 1) (by decide) (by decide) c3
  have e_c4 := jv_ne (x := a2) (k := 2) (by decide) (by decide) c4
  refine jv_tblOut (tgt := 62) (jv_dk t_X12_set (k := 4) rfl) (by omega) rfl ?_
  exact jv_throw (jv_dk t_X12_set (k := 21) rfl) (jv_dk t_X12_set (k := 22) rfl) (jv_dk t_X12_set (k := 23) rfl) (jv_dk t_X12_set (k := 24) rfl) rfl rfl (by decide) tw_146_148 (Nat.le_of_ble_eq_true rfl) ⟨by decide, by decide⟩ rfl
def t0_X12_shared : List (Nat × Instr × Nat) := [(0, .aload_n 0, 1), (1, .iconst 1, 1), (2, .iload_n 1, 1), (3, .invokevirtual 216, 3), (6, .aload_n 0, 1), (7, .iconst 1, 1), (8, .iload_n 2, 1), (9, .invokevirtual 216, 3), (12, .aload_n 0, 1), (13, .getfield 10, 3), (16, .getfield 82, 3), (19, .getfield 125, 3), (22, .astore_n 3, 1), (23, .iconst 0, 1), (24, .istore 4, 2), (26, .iconst 0, 1), (27, .istore 5, 2), (29, .iload 5, 2), (31, .bipush 100, 2), (33, .if_icmp .ge 38, 3), (36, .aload_n 3, 1), (37, .iload_n 1, 1), (38, .iload 5, 2), (40, .invokevirtual 174, 3), (43, .ldc_w 326, 3), (46, .if_icmp .eq 19, 3), (49, .aload_n 3, 1), (50, .iload_n 2, 1), (51, .iload 5, 2), (53, .invokevirtual 174, 3), (56, .ldc_w 326, 3), (59, .if_icmp .eq 6, 3), (62, .iinc 4 1, 3), (65, .iinc 5 1, 3), (68, .goto (-39), 3), (71, .iload 4, 2), (73, .ireturn, 1)]
theorem t_X12_shared : jv_dec cX12_shared t0_X12_shared = true := by decide +kernel
def M_X12_shared : jm := (yX12_shared, cX12_shared, 6, (some .int), 7, 123, [])
theorem cn_X12_326 : Cond.constant RX12 326 65534 ∈ lw_tbl := (jv_at 1293 (by decide +kernel))
def f_X12_shared_h29 (K29 : Int32 → jh → Option ((Int32 ⊕ String) × jh)) (R29 : Int32 → Int32 → Nat → Int32 → Int32 → jh → Option ((Int32 ⊕ String) × jh)) (x1 : Int32) (x2 : Int32) (x3 : Nat) (x4 : Int32) (x5 : Int32) (h : jh) : Option ((Int32 ⊕ String) × jh) :=
  (if 100 ≤ x5 then
  K29 x4 h
  else
  cV h x3 8 (f_X10_inward x3 x1 x5 h) fun v7 h8 =>
  (if v7 = 65534 then
  R29 x1 x2 x3 x4 (x5 + 1) h8
  else
  cV h8 x3 8 (f_X10_inward x3 x2 x5 h8) fun v10 h11 =>
  (if v10 = 65534 then
  R29 x1 x2 x3 x4 (x5 + 1) h11
  else
  R29 x1 x2 x3 (x4 + 1) (x5 + 1) h11)))
theorem o_f_X12_shared_h29 {X : jx} {b0 : Nat × Nat} {K29 : Int32 → jh → Option ((Int32 ⊕ String) × jh)} (hK29 : ∀ (x4 : Int32) (h : jh), jv_O X M_X12_shared b0 jeIX 71 [none, none, none, none, some (.int (x4)), none] [] h (K29 x4 h)) : ∀ (x1 : Int32) (x2 : Int32) (x3 : Nat) (x4 : Int32) (x5 : Int32) (h : jh), jv_O X M_X12_shared b0 jeIX 29 [none, some (.int (x1)), some (.int (x2)), some (.ref (x3)), some (.int (x4)), some (.int (x5))] [] h (jlp5 (f_X12_shared_h29 K29) jfu x1 x2 x3 x4 x5 h) := by
  refine jlp5_ok (P := fun x1 x2 x3 x4 x5 h o => jv_O X M_X12_shared b0 jeIX 29 [none, some (.int (x1)), some (.int (x2)), some (.ref (x3)), some (.int (x4)), some (.int (x5))] [] h o) (fun R29 hR29 => ?_) (fun _ _ _ _ _ _  => jv_none rfl) jfu
  intro x1 x2 x3 x4 x5 h
  unfold f_X12_shared_h29
  refine jv_iload (jv_dk t_X12_shared (k := 17) rfl) rfl ?_
  refine jv_bipush (v := 100) (jv_dk t_X12_shared (k := 18) rfl) (by decide) ?_
  refine jv_icmp_ge (tgt := 71) (jv_dk t_X12_shared (k := 19) rfl) rfl (fun c6 => ?_) (fun c6 => ?_)
  · refine jv_le_row (jv_le_n (jv_le_n (jv_le_n (jv_le_n (jv_le_s (jv_le_n (jv_le_nil))))))) ?_
    exact hK29 _ _ 
  · show jv_O _ _ _ _ 36 _ _ _ _
    refine jv_aload_n (jv_dk t_X12_shared (k := 20) rfl) rfl rfl (Or.inr ⟨_, rfl⟩) ?_
    refine jv_iload_n (jv_dk t_X12_shared (k := 21) rfl) rfl rfl ?_
    refine jv_iload (jv_dk t_X12_shared (k := 22) rfl) rfl ?_
    refine jv_callV (en' := jeI) (pv := jpI) (As := [.int (x1), .int (x5)]) (S := []) (jv_dk t_X12_shared (k := 23) rfl) (fun _ => rfl) lk_X12_174 me_X10_inward mv_X10_inward ⟨by decide, by decide⟩ rfl rfl rfl (Nat.le_of_ble_eq_true rfl) (P_X10_inward X x3 x1 x5 h) (fun v7 h8 => ?_)
    show jv_O X M_X12_shared _ jeIX 43 [none, some (.int (x1)), some (.int (x2)), some (.ref (x3)), some (.int (x4)), some (.int (x5))] [.int (v7)] h8 _
    refine jv_ldcw (jv_dk t_X12_shared (k := 24) rfl) cn_X12_326 ?_
    refine jv_icmp_eq (tgt := 65) (jv_dk t_X12_shared (k := 25) rfl) rfl (fun c9 => ?_) (fun c9 => ?_)
    · refine jv_iinc (v := 1) (L' := [none, some (.int (x1)), some (.int (x2)), some (.ref (x3)), some (.int (x4)), some (.int (x5 + 1))]) (jv_dk t_X12_shared (k := 33) rfl) rfl (by decide) rfl ?_
      refine jv_goto (tgt := 29) (jv_dk t_X12_shared (k := 34) rfl) rfl ?_
      exact hR29 _ _ _ _ _ _ 
    · show jv_O _ _ _ _ 49 _ _ _ _
      refine jv_aload_n (jv_dk t_X12_shared (k := 26) rfl) rfl rfl (Or.inr ⟨_, rfl⟩) ?_
      refine jv_iload_n (jv_dk t_X12_shared (k := 27) rfl) rfl rfl ?_
      refine jv_iload (jv_dk t_X12_shared (k := 28) rfl) rfl ?_
      refine jv_callV (en' := jeI) (pv := jpI) (As := [.int (x2), .int (x5)]) (S := []) (jv_dk t_X12_shared (k := 29) rfl) (fun _ => rfl) lk_X12_174 me_X10_inward mv_X10_inward ⟨by decide, by decide⟩ rfl rfl rfl (Nat.le_of_ble_eq_true rfl) (P_X10_inward X x3 x2 x5 h8) (fun v10 h11 => ?_)
      show jv_O X M_X12_shared _ jeIX 56 [none, some (.int (x1)), some (.int (x2)), some (.ref (x3)), some (.int (x4)), some (.int (x5))] [.int (v10)] h11 _
      refine jv_ldcw (jv_dk t_X12_shared (k := 30) rfl) cn_X12_326 ?_
      refine jv_icmp_eq (tgt := 65) (jv_dk t_X12_shared (k := 31) rfl) rfl (fun c12 => ?_) (fun c12 => ?_)
      · refine jv_iinc (v := 1) (L' := [none, some (.int (x1)), some (.int (x2)), some (.ref (x3)), some (.int (x4)), some (.int (x5 + 1))]) (jv_dk t_X12_shared (k := 33) rfl) rfl (by decide) rfl ?_
        refine jv_goto (tgt := 29) (jv_dk t_X12_shared (k := 34) rfl) rfl ?_
        exact hR29 _ _ _ _ _ _ 
      · show jv_O _ _ _ _ 62 _ _ _ _
        refine jv_iinc (v := 1) (L' := [none, some (.int (x1)), some (.int (x2)), some (.ref (x3)), some (.int (x4 + 1)), some (.int (x5))]) (jv_dk t_X12_shared (k := 32) rfl) rfl (by decide) rfl ?_
        refine jv_iinc (v := 1) (L' := [none, some (.int (x1)), some (.int (x2)), some (.ref (x3)), some (.int (x4 + 1)), some (.int (x5 + 1))]) (jv_dk t_X12_shared (k := 33) rfl) rfl (by decide) rfl ?_
        refine jv_goto (tgt := 29) (jv_dk t_X12_shared (k := 34) rfl) rfl ?_
        exact hR29 _ _ _ _ _ _ 
def f_X12_shared (a0 : Nat) (a1 : Int32) (a2 : Int32) (h : jh) : Option ((Int32 ⊕ String) × jh) :=
  cVX h a0 10 (f_X12_needSpace a0 1 a1 h) fun _ h1 =>
  cVX h1 a0 10 (f_X12_needSpace a0 1 a2 h1) fun _ h2 =>
  gR h2 a0 10 0 fun v3 =>
  gR h2 v3 6 0 fun v4 =>
  gR h2 v4 9 2 fun v5 =>
  jlp5 (f_X12_shared_h29 (fun y14 h13 =>
  some (.inl y14, h13))) jfu a1 a2 v5 0 0 h2
theorem P_X12_shared (X : jx) (a0 : Nat) (a1 : Int32) (a2 : Int32) (h : jh) : jv_P X M_X12_shared jeIX [.ref (a0), .int (a1), .int (a2)] h (f_X12_shared a0 a1 a2 h) := by
  refine jv_P.of (by decide) rfl (by simp [Value.category]) (Nat.le_of_ble_eq_true rfl) ?_
  show jv_O X M_X12_shared (h.1, h.2.1) jeIX 0 [some (.ref (a0)), some (.int (a1)), some (.int (a2)), none, none, none] [] h (f_X12_shared a0 a1 a2 h)
  unfold f_X12_shared
  refine jv_aload_n (jv_dk t_X12_shared (k := 0) rfl) rfl rfl (Or.inr ⟨_, rfl⟩) ?_
  refine jv_iconst (v := 1) (jv_dk t_X12_shared (k := 1) rfl) (by decide) ?_
  refine jv_iload_n (jv_dk t_X12_shared (k := 2) rfl) rfl rfl ?_
  refine jv_callVX (en' := jeVX) (pv := jpV) (As := [.int (1), .int (a1)]) (S := []) (jv_dk t_X12_shared (k := 3) rfl) (fun _ => rfl) (fun _ => rfl) (fun _ => rfl) rfl lk_X12_216 me_X12_needSpace mv_X12_needSpace ⟨by decide, by decide⟩ rfl rfl rfl (Nat.le_of_ble_eq_true rfl) (P_X12_needSpace X a0 1 a1 h) (fun _ h1 => ?_)
  show jv_O X M_X12_shared _ jeIX 6 [some (.ref (a0)), some (.int (a1)), some (.int (a2)), none, none, none] [] h1 _
  refine jv_aload_n (jv_dk t_X12_shared (k := 4) rfl) rfl rfl (Or.inr ⟨_, rfl⟩) ?_
  refine jv_iconst (v := 1) (jv_dk t_X12_shared (k := 5) rfl) (by decide) ?_
  refine jv_iload_n (jv_dk t_X12_shared (k := 6) rfl) rfl rfl ?_
  refine jv_callVX (en' := jeVX) (pv := jpV) (As := [.int (1), .int (a2)]) (S := []) (jv_dk t_X12_shared (k := 7) rfl) (fun _ => rfl) (fun _ => rfl) (fun _ => rfl) rfl lk_X12_216 me_X12_needSpace mv_X12_needSpace ⟨by decide, by decide⟩ rfl rfl rfl (Nat.le_of_ble_eq_true rfl) (P_X12_needSpace X a0 1 a2 h1) (fun _ h2 => ?_)
  show jv_O X M_X12_shared _ jeIX 12 [some (.ref (a0)), some (.int (a1)), some (.int (a2)), none, none, none] [] h2 _
  refine jv_aload_n (jv_dk t_X12_shared (k := 8) rfl) rfl rfl (Or.inr ⟨_, rfl⟩) ?_
  refine jv_gR (jv_dk t_X12_shared (k := 9) rfl) fl_X12_10 (fun v3 => ?_)
  refine jv_gR (jv_dk t_X12_shared (k := 10) rfl) fl_X12_82 (fun v4 => ?_)
  refine jv_gR (jv_dk t_X12_shared (k := 11) rfl) fl_X12_125 (fun v5 => ?_)
  refine jv_astore_n (L' := [some (.ref (a0)), some (.int (a1)), some (.int (a2)), some (.ref (v5)), none, none]) (jv_dk t_X12_shared (k := 12) rfl) rfl (Nat.le_of_ble_eq_true rfl) (Or.inr ⟨_, rfl⟩) rfl ?_
  refine jv_iconst (v := 0) (jv_dk t_X12_shared (k := 13) rfl) (by decide) ?_
  refine jv_istore (L' := [some (.ref (a0)), some (.int (a1)), some (.int (a2)), some (.ref (v5)), some (.int (0)), none]) (jv_dk t_X12_shared (k := 14) rfl) (Nat.le_of_ble_eq_true rfl) rfl ?_
  refine jv_iconst (v := 0) (jv_dk t_X12_shared (k := 15) rfl) (by decide) ?_
  refine jv_istore (L' := [some (.ref (a0)), some (.int (a1)), some (.int (a2)), some (.ref (v5)), some (.int (0)), some (.int (0))]) (jv_dk t_X12_shared (k := 16) rfl) (Nat.le_of_ble_eq_true rfl) rfl ?_
  refine jv_le_row (jv_le_n (jv_le_s (jv_le_s (jv_le_s (jv_le_s (jv_le_s (jv_le_nil))))))) ?_
  refine o_f_X12_shared_h29 (fun y14 h13 => ?_) _ _ _ _ _ _ 
  show jv_O X M_X12_shared _ jeIX 71 [none, none, none, none, some (.int (y14)), none] [] h13 _
  refine jv_iload (jv_dk t_X12_shared (k := 35) rfl) rfl ?_
  exact jv_iret (ty := .int) (jv_dk t_X12_shared (k := 36) rfl) rfl rfl rfl
def t0_X12_steps : List (Nat × Instr × Nat) := [(0, .aload_n 0, 1), (1, .iload_n 1, 1), (2, .invokevirtual 149, 3), (5, .aload_n 0, 1), (6, .iconst 2, 1), (7, .iload_n 2, 1), (8, .invokevirtual 216, 3), (11, .aload_n 0, 1), (12, .getfield 29, 3), (15, .aload_n 0, 1), (16, .getfield 10, 3), (19, .getfield 82, 3), (22, .iload_n 1, 1), (23, .invokevirtual 319, 3), (26, .aload_n 0, 1), (27, .getfield 29, 3), (30, .iload_n 2, 1), (31, .invokevirtual 323, 3), (34, .ireturn, 1)]
theorem t_X12_steps : jv_dec cX12_steps t0_X12_steps = true := by decide +kernel
def M_X12_steps : jm := (yX12_steps, cX12_steps, 3, (some .int), 7, 123, [])
def f_X12_steps (a0 : Nat) (a1 : Int32) (a2 : Int32) (h : jh) : Option ((Int32 ⊕ String) × jh) :=
  cVX h a0 10 (f_X12_needProcess a0 a1 h) fun _ h1 =>
  cVX h1 a0 10 (f_X12_needSpace a0 2 a2 h1) fun _ h2 =>
  gR h2 a0 10 3 fun v3 =>
  gR h2 a0 10 0 fun v4 =>
  gR h2 v4 6 0 fun v5 =>
  cV h2 v3 5 (f_X7_walk v3 v5 a1 h2) fun _ h6 =>
  gR h6 a0 10 3 fun v7 =>
  cV h6 v7 5 (f_X7_stepsTo v7 a2 h6) fun v8 h9 =>
  some (.inl v8, h9)
theorem P_X12_steps (X : jx) (a0 : Nat) (a1 : Int32) (a2 : Int32) (h : jh) : jv_P X M_X12_steps jeIX [.ref (a0), .int (a1), .int (a2)] h (f_X12_steps a0 a1 a2 h) := by
  refine jv_P.of (by decide) rfl (by simp [Value.category]) (Nat.le_of_ble_eq_true rfl) ?_
  show jv_O X M_X12_steps (h.1, h.2.1) jeIX 0 [some (.ref (a0)), some (.int (a1)), some (.int (a2))] [] h (f_X12_steps a0 a1 a2 h)
  unfold f_X12_steps
  refine jv_aload_n (jv_dk t_X12_steps (k := 0) rfl) rfl rfl (Or.inr ⟨_, rfl⟩) ?_
  refine jv_iload_n (jv_dk t_X12_steps (k := 1) rfl) rfl rfl ?_
  refine jv_callVX (en' := jeVX) (pv := jpV) (As := [.int (a1)]) (S := []) (jv_dk t_X12_steps (k := 2) rfl) (fun _ => rfl) (fun _ => rfl) (fun _ => rfl) rfl lk_X12_149 me_X12_needProcess mv_X12_needProcess ⟨by decide, by decide⟩ rfl rfl rfl (Nat.le_of_ble_eq_true rfl) (P_X12_needProcess X a0 a1 h) (fun _ h1 => ?_)
  show jv_O X M_X12_steps _ jeIX 5 [some (.ref (a0)), some (.int (a1)), some (.int (a2))] [] h1 _
  refine jv_aload_n (jv_dk t_X12_steps (k := 3) rfl) rfl rfl (Or.inr ⟨_, rfl⟩) ?_
  refine jv_iconst (v := 2) (jv_dk t_X12_steps (k := 4) rfl) (by decide) ?_
  refine jv_iload_n (jv_dk t_X12_steps (k := 5) rfl) rfl rfl ?_
  refine jv_callVX (en' := jeVX) (pv := jpV) (As := [.int (2), .int (a2)]) (S := []) (jv_dk t_X12_steps (k := 6) rfl) (fun _ => rfl) (fun _ => rfl) (fun _ => rfl) rfl lk_X12_216 me_X12_needSpace mv_X12_needSpace ⟨by decide, by decide⟩ rfl rfl rfl (Nat.le_of_ble_eq_true rfl) (P_X12_needSpace X a0 2 a2 h1) (fun _ h2 => ?_)
  show jv_O X M_X12_steps _ jeIX 11 [some (.ref (a0)), some (.int (a1)), some (.int (a2))] [] h2 _
  refine jv_aload_n (jv_dk t_X12_steps (k := 7) rfl) rfl rfl (Or.inr ⟨_, rfl⟩) ?_
  refine jv_gR (jv_dk t_X12_steps (k := 8) rfl) fl_X12_29 (fun v3 => ?_)
  refine jv_aload_n (jv_dk t_X12_steps (k := 9) rfl) rfl rfl (Or.inr ⟨_, rfl⟩) ?_
  refine jv_gR (jv_dk t_X12_steps (k := 10) rfl) fl_X12_10 (fun v4 => ?_)
  refine jv_gR (jv_dk t_X12_steps (k := 11) rfl) fl_X12_82 (fun v5 => ?_)
  refine jv_iload_n (jv_dk t_X12_steps (k := 12) rfl) rfl rfl ?_
  refine jv_callV (en' := jeV) (pv := jpV) (As := [.ref (v5), .int (a1)]) (S := []) (jv_dk t_X12_steps (k := 13) rfl) (fun _ => rfl) lk_X12_319 me_X7_walk mv_X7_walk ⟨by decide, by decide⟩ rfl rfl rfl (Nat.le_of_ble_eq_true rfl) (P_X7_walk X v3 v5 a1 h2) (fun _ h6 => ?_)
  show jv_O X M_X12_steps _ jeIX 26 [some (.ref (a0)), some (.int (a1)), some (.int (a2))] [] h6 _
  refine jv_aload_n (jv_dk t_X12_steps (k := 14) rfl) rfl rfl (Or.inr ⟨_, rfl⟩) ?_
  refine jv_gR (jv_dk t_X12_steps (k := 15) rfl) fl_X12_29 (fun v7 => ?_)
  refine jv_iload_n (jv_dk t_X12_steps (k := 16) rfl) rfl rfl ?_
  refine jv_callV (en' := jeI) (pv := jpI) (As := [.int (a2)]) (S := []) (jv_dk t_X12_steps (k := 17) rfl) (fun _ => rfl) lk_X12_323 me_X7_stepsTo mv_X7_stepsTo ⟨by decide, by decide⟩ rfl rfl rfl (Nat.le_of_ble_eq_true rfl) (P_X7_stepsTo X v7 a2 h6) (fun v8 h9 => ?_)
  show jv_O X M_X12_steps _ jeIX 34 [some (.ref (a0)), some (.int (a1)), some (.int (a2))] [.int (v8)] h9 _
  exact jv_iret (ty := .int) (jv_dk t_X12_steps (k := 18) rfl) rfl rfl rfl
def t0_X12_note : List (Nat × Instr × Nat) := [(0, .aload_n 0, 1), (1, .getfield 10, 3), (4, .getfield 82, 3), (7, .getfield 112, 3), (10, .getfield 116, 3), (13, .iload_n 1, 1), (14, .invokevirtual 192, 3), (17, .ifCond .eq 18, 3), (20, .iload_n 2, 1), (21, .iconst 1, 1), (22, .if_icmp .lt 13, 3), (25, .iload_n 2, 1), (26, .bipush 20, 2), (28, .if_icmp .gt 7, 3), (31, .iconst 1, 1), (32, .goto 4, 3), (35, .iconst 0, 1), (36, .istore 4, 2), (38, .iload 4, 2), (40, .ifCond .eq 18, 3), (43, .aload_n 0, 1), (44, .getfield 10, 3), (47, .getfield 88, 3), (50, .getfield 92, 3), (53, .bipush 8, 2), (55, .if_icmp .lt 18, 3), (58, .aload_n 0, 1), (59, .getfield 10, 3), (62, .getfield 79, 3), (65, .iconst 2, 1), (66, .dup2, 1), (67, .iaload, 1), (68, .iconst 1, 1), (69, .iadd, 1), (70, .iastore, 1), (71, .iconst (-1), 1), (72, .ireturn, 1), (73, .aload_n 0, 1), (74, .getfield 10, 3), (77, .getfield 88, 3), (80, .iload_n 1, 1), (81, .iload_n 2, 1), (82, .iload_n 3, 1), (83, .invokevirtual 327, 3), (86, .aload_n 0, 1), (87, .getfield 10, 3), (90, .getfield 88, 3), (93, .getfield 92, 3), (96, .ireturn, 1)]
theorem t_X12_note : jv_dec cX12_note t0_X12_note = true := by decide +kernel
def M_X12_note : jm := (yX12_note, cX12_note, 5, (some .int), 2, 43, [])
theorem lk_X12_327 : jv_lk RX12 327 M_X3_add := Or.inr ⟨"SpaceWarden", (jv_at 889 (by decide +kernel))⟩
set_option maxRecDepth 20000 in
theorem me_X3_add : jv_me M_X3_add 3 := ⟨(jv_in4 (List.mem_of_getElem? (i := 12) rfl)), (jv_at 169 (by decide +kernel)), ⟨by decide, by decide⟩, by decide +kernel⟩
theorem mv_X3_add : jv_mv M_X3_add := ⟨(jv_at 891 (by decide +kernel)), (jv_at 61 (by decide +kernel))⟩
def f_X12_note_b58 (x0 : Nat) (h : jh) : Option (Int32 × jh) :=
  gR h x0 10 0 fun v9 =>
  gR h v9 6 3 fun v10 =>
  aI h v10 2 fun v11 =>
  sI h v10 2 (v11 + 1) fun h12 =>
  some ((-1), h12)
theorem o_f_X12_note_b58 {X : jx} {b0 : Nat × Nat} (x0 : Nat) (h : jh) : jv_O X M_X12_note b0 jeI 58 [some (.ref (x0)), none, none, none, none] [] h (f_X12_note_b58 x0 h) := by
  unfold f_X12_note_b58
  refine jv_aload_n (jv_dk t_X12_note (k := 26) rfl) rfl rfl (Or.inr ⟨_, rfl⟩) ?_
  refine jv_gR (jv_dk t_X12_note (k := 27) rfl) fl_X12_10 (fun v9 => ?_)
  refine jv_gR (jv_dk t_X12_note (k := 28) rfl) fl_X12_79 (fun v10 => ?_)
  refine jv_iconst (v := 2) (jv_dk t_X12_note (k := 29) rfl) (by decide) ?_
  refine jv_dup2 (jv_dk t_X12_note (k := 30) rfl) rfl rfl ?_
  refine jv_iaload (jv_dk t_X12_note (k := 31) rfl) (fun v11 => ?_)
  refine jv_iconst (v := 1) (jv_dk t_X12_note (k := 32) rfl) (by decide) ?_
  refine jv_iadd (jv_dk t_X12_note (k := 33) rfl) ?_
  refine jv_iastore (jv_dk t_X12_note (k := 34) rfl) (fun h12 => ?_)
  refine jv_iconst (v := (-1)) (jv_dk t_X12_note (k := 35) rfl) (by decide) ?_
  exact jv_iret (ty := .int) (jv_dk t_X12_note (k := 36) rfl) rfl rfl rfl
def f_X12_note_b36 (x0 : Nat) (x1 : Int32) (x2 : Int32) (x3 : Int32) (s0 : Int32) (h : jh) : Option (Int32 × jh) :=
  (if s0 = 0 then
  f_X12_note_b58 x0 h
  else
  gR h x0 10 0 fun v13 =>
  gR h v13 6 2 fun v14 =>
  gI h v14 1 3 fun v15 =>
  (if v15 < 8 then
  gR h x0 10 0 fun v17 =>
  gR h v17 6 2 fun v18 =>
  cV h v18 1 (f_X3_add v18 x1 x2 x3 h) fun _ h19 =>
  gR h19 x0 10 0 fun v20 =>
  gR h19 v20 6 2 fun v21 =>
  gI h19 v21 1 3 fun v22 =>
  some (v22, h19)
  else
  f_X12_note_b58 x0 h))
theorem o_f_X12_note_b36 {X : jx} {b0 : Nat × Nat} (x0 : Nat) (x1 : Int32) (x2 : Int32) (x3 : Int32) (s0 : Int32) (h : jh) : jv_O X M_X12_note b0 jeI 36 [some (.ref (x0)), some (.int (x1)), some (.int (x2)), some (.int (x3)), none] [.int (s0)] h (f_X12_note_b36 x0 x1 x2 x3 s0 h) := by
  unfold f_X12_note_b36
  refine jv_istore (L' := [some (.ref (x0)), some (.int (x1)), some (.int (x2)), some (.int (x3)), some (.int (s0))]) (jv_dk t_X12_note (k := 17) rfl) (Nat.le_of_ble_eq_true rfl) rfl ?_
  refine jv_iload (jv_dk t_X12_note (k := 18) rfl) rfl ?_
  refine jv_if_eq (tgt := 58) (jv_dk t_X12_note (k := 19) rfl) rfl (fun c8 => ?_) (fun c8 => ?_)
  · refine jv_le_row (jv_le_s (jv_le_n (jv_le_n (jv_le_n (jv_le_n (jv_le_nil)))))) ?_
    exact o_f_X12_note_b58 _ _ 
  · show jv_O _ _ _ _ 43 _ _ _ _
    refine jv_aload_n (jv_dk t_X12_note (k := 20) rfl) rfl rfl (Or.inr ⟨_, rfl⟩) ?_
    refine jv_gR (jv_dk t_X12_note (k := 21) rfl) fl_X12_10 (fun v13 => ?_)
    refine jv_gR (jv_dk t_X12_note (k := 22) rfl) fl_X12_88 (fun v14 => ?_)
    refine jv_gI (jv_dk t_X12_note (k := 23) rfl) fl_X12_92 (fun v15 => ?_)
    refine jv_bipush (v := 8) (jv_dk t_X12_note (k := 24) rfl) (by decide) ?_
    refine jv_icmp_lt (tgt := 73) (jv_dk t_X12_note (k := 25) rfl) rfl (fun c16 => ?_) (fun c16 => ?_)
    · refine jv_aload_n (jv_dk t_X12_note (k := 37) rfl) rfl rfl (Or.inr ⟨_, rfl⟩) ?_
      refine jv_gR (jv_dk t_X12_note (k := 38) rfl) fl_X12_10 (fun v17 => ?_)
      refine jv_gR (jv_dk t_X12_note (k := 39) rfl) fl_X12_88 (fun v18 => ?_)
      refine jv_iload_n (jv_dk t_X12_note (k := 40) rfl) rfl rfl ?_
      refine jv_iload_n (jv_dk t_X12_note (k := 41) rfl) rfl rfl ?_
      refine jv_iload_n (jv_dk t_X12_note (k := 42) rfl) rfl rfl ?_
      refine jv_callV (en' := jeV) (pv := jpV) (As := [.int (x1), .int (x2), .int (x3)]) (S := []) (jv_dk t_X12_note (k := 43) rfl) (fun _ => rfl) lk_X12_327 me_X3_add mv_X3_add ⟨by decide, by decide⟩ rfl rfl rfl (Nat.le_of_ble_eq_true rfl) (P_X3_add X v18 x1 x2 x3 h) (fun _ h19 => ?_)
      show jv_O X M_X12_note _ jeI 86 [some (.ref (x0)), some (.int (x1)), some (.int (x2)), some (.int (x3)), some (.int (s0))] [] h19 _
      refine jv_aload_n (jv_dk t_X12_note (k := 44) rfl) rfl rfl (Or.inr ⟨_, rfl⟩) ?_
      refine jv_gR (jv_dk t_X12_note (k := 45) rfl) fl_X12_10 (fun v20 => ?_)
      refine jv_gR (jv_dk t_X12_note (k := 46) rfl) fl_X12_88 (fun v21 => ?_)
      refine jv_gI (jv_dk t_X12_note (k := 47) rfl) fl_X12_92 (fun v22 => ?_)
      exact jv_iret (ty := .int) (jv_dk t_X12_note (k := 48) rfl) rfl rfl rfl
    · show jv_O _ _ _ _ 58 _ _ _ _
      refine jv_le_row (jv_le_s (jv_le_n (jv_le_n (jv_le_n (jv_le_n (jv_le_nil)))))) ?_
      exact o_f_X12_note_b58 _ _ 
def f_X12_note (a0 : Nat) (a1 : Int32) (a2 : Int32) (a3 : Int32) (h : jh) : Option (Int32 × jh) :=
  gR h a0 10 0 fun v1 =>
  gR h v1 6 0 fun v2 =>
  gR h v2 9 1 fun v3 =>
  gR h v3 2 0 fun v4 =>
  cV h v4 7 (f_X9_has v4 a1 h) fun v5 h6 =>
  (if v5 = 0 then
  f_X12_note_b36 a0 a1 a2 a3 0 h6
  else
  (if a2 < 1 then
  f_X12_note_b36 a0 a1 a2 a3 0 h6
  else
  (if 20 < a2 then
  f_X12_note_b36 a0 a1 a2 a3 0 h6
  else
  f_X12_note_b36 a0 a1 a2 a3 1 h6)))
theorem P_X12_note (X : jx) (a0 : Nat) (a1 : Int32) (a2 : Int32) (a3 : Int32) (h : jh) : jv_P X M_X12_note jeI [.ref (a0), .int (a1), .int (a2), .int (a3)] h (f_X12_note a0 a1 a2 a3 h) := by
  refine jv_P.of (by decide) rfl (by simp [Value.category]) (Nat.le_of_ble_eq_true rfl) ?_
  show jv_O X M_X12_note (h.1, h.2.1) jeI 0 [some (.ref (a0)), some (.int (a1)), some (.int (a2)), some (.int (a3)), none] [] h (f_X12_note a0 a1 a2 a3 h)
  unfold f_X12_note
  refine jv_aload_n (jv_dk t_X12_note (k := 0) rfl) rfl rfl (Or.inr ⟨_, rfl⟩) ?_
  refine jv_gR (jv_dk t_X12_note (k := 1) rfl) fl_X12_10 (fun v1 => ?_)
  refine jv_gR (jv_dk t_X12_note (k := 2) rfl) fl_X12_82 (fun v2 => ?_)
  refine jv_gR (jv_dk t_X12_note (k := 3) rfl) fl_X12_112 (fun v3 => ?_)
  refine jv_gR (jv_dk t_X12_note (k := 4) rfl) fl_X12_116 (fun v4 => ?_)
  refine jv_iload_n (jv_dk t_X12_note (k := 5) rfl) rfl rfl ?_
  refine jv_callV (en' := jeI) (pv := jpI) (As := [.int (a1)]) (S := []) (jv_dk t_X12_note (k := 6) rfl) (fun _ => rfl) lk_X12_192 me_X9_has mv_X9_has ⟨by decide, by decide⟩ rfl rfl rfl (Nat.le_of_ble_eq_true rfl) (P_X9_has X v4 a1 h) (fun v5 h6 => ?_)
  show jv_O X M_X12_note _ jeI 17 [some (.ref (a0)), some (.int (a1)), some (.int (a2)), some (.int (a3)), none] [.int (v5)] h6 _
  refine jv_if_eq (tgt := 35) (jv_dk t_X12_note (k := 7) rfl) rfl (fun c7 => ?_) (fun c7 => ?_)
  · refine jv_iconst (v := 0) (jv_dk t_X12_note (k := 16) rfl) (by decide) ?_
    exact o_f_X12_note_b36 _ _ _ _ _ _ 
  · show jv_O _ _ _ _ 20 _ _ _ _
    refine jv_iload_n (jv_dk t_X12_note (k := 8) rfl) rfl rfl ?_
    refine jv_iconst (v := 1) (jv_dk t_X12_note (k := 9) rfl) (by decide) ?_
    refine jv_icmp_lt (tgt := 35) (jv_dk t_X12_note (k := 10) rfl) rfl (fun c23 => ?_) (fun c23 => ?_)
    · refine jv_iconst (v := 0) (jv_dk t_X12_note (k := 16) rfl) (by decide) ?_
      exact o_f_X12_note_b36 _ _ _ _ _ _ 
    · show jv_O _ _ _ _ 25 _ _ _ _
      refine jv_iload_n (jv_dk t_X12_note (k := 11) rfl) rfl rfl ?_
      refine jv_bipush (v := 20) (jv_dk t_X12_note (k := 12) rfl) (by decide) ?_
      refine jv_icmp_gt (tgt := 35) (jv_dk t_X12_note (k := 13) rfl) rfl (fun c24 => ?_) (fun c24 => ?_)
      · refine jv_iconst (v := 0) (jv_dk t_X12_note (k := 16) rfl) (by decide) ?_
        exact o_f_X12_note_b36 _ _ _ _ _ _ 
      · show jv_O _ _ _ _ 31 _ _ _ _
        refine jv_iconst (v := 1) (jv_dk t_X12_note (k := 14) rfl) (by decide) ?_
        refine jv_goto (tgt := 36) (jv_dk t_X12_note (k := 15) rfl) rfl ?_
        exact o_f_X12_note_b36 _ _ _ _ _ _ 
def t0_X12_fits : List (Nat × Instr × Nat) := [(0, .aload_n 0, 1), (1, .getfield 10, 3), (4, .getfield 88, 3), (7, .aload_n 0, 1), (8, .getfield 10, 3), (11, .getfield 82, 3), (14, .invokevirtual 331, 3), (17, .ireturn, 1)]
theorem t_X12_fits : jv_dec cX12_fits t0_X12_fits = true := by decide +kernel
def M_X12_fits : jm := (yX12_fits, cX12_fits, 1, (some .int), 4, 93, [])
theorem lk_X12_331 : jv_lk RX12 331 M_X3_fitting := Or.inr ⟨"SpaceWarden", (jv_at 898 (by decide +kernel))⟩
set_option maxRecDepth 20000 in
theorem me_X3_fitting : jv_me M_X3_fitting 1 := ⟨(jv_in4 (List.mem_of_getElem? (i := 21) rfl)), (jv_at 169 (by decide +kernel)), ⟨by decide, by decide⟩, by decide +kernel⟩
theorem mv_X3_fitting : jv_mv M_X3_fitting := ⟨(jv_at 900 (by decide +kernel)), (jv_at 62 (by decide +kernel))⟩
def f_X12_fits (a0 : Nat) (h : jh) : Option (Int32 × jh) :=
  gR h a0 10 0 fun v1 =>
  gR h v1 6 2 fun v2 =>
  gR h a0 10 0 fun v3 =>
  gR h v3 6 0 fun v4 =>
  cV h v2 1 (f_X3_fitting v2 v4 h) fun v5 h6 =>
  some (v5, h6)
theorem P_X12_fits (X : jx) (a0 : Nat) (h : jh) : jv_P X M_X12_fits jeI [.ref (a0)] h (f_X12_fits a0 h) := by
  refine jv_P.of (by decide) rfl (by simp [Value.category]) (Nat.le_of_ble_eq_true rfl) ?_
  show jv_O X M_X12_fits (h.1, h.2.1) jeI 0 [some (.ref (a0))] [] h (f_X12_fits a0 h)
  unfold f_X12_fits
  refine jv_aload_n (jv_dk t_X12_fits (k := 0) rfl) rfl rfl (Or.inr ⟨_, rfl⟩) ?_
  refine jv_gR (jv_dk t_X12_fits (k := 1) rfl) fl_X12_10 (fun v1 => ?_)
  refine jv_gR (jv_dk t_X12_fits (k := 2) rfl) fl_X12_88 (fun v2 => ?_)
  refine jv_aload_n (jv_dk t_X12_fits (k := 3) rfl) rfl rfl (Or.inr ⟨_, rfl⟩) ?_
  refine jv_gR (jv_dk t_X12_fits (k := 4) rfl) fl_X12_10 (fun v3 => ?_)
  refine jv_gR (jv_dk t_X12_fits (k := 5) rfl) fl_X12_82 (fun v4 => ?_)
  refine jv_callV (en' := jeI) (pv := jpI) (As := [.ref (v4)]) (S := []) (jv_dk t_X12_fits (k := 6) rfl) (fun _ => rfl) lk_X12_331 me_X3_fitting mv_X3_fitting ⟨by decide, by decide⟩ rfl rfl rfl (Nat.le_of_ble_eq_true rfl) (P_X3_fitting X v2 v4 h) (fun v5 h6 => ?_)
  show jv_O X M_X12_fits _ jeI 17 [some (.ref (a0))] [.int (v5)] h6 _
  exact jv_iret (ty := .int) (jv_dk t_X12_fits (k := 7) rfl) rfl rfl rfl
def t0_X12_look : List (Nat × Instr × Nat) := [(0, .iload_n 1, 1), (1, .ifCond .eq 16, 3), (4, .iload_n 1, 1), (5, .iconst 1, 1), (6, .if_icmp .eq 11, 3), (9, .new 146, 3), (12, .dup, 1), (13, .invokespecial 148, 3), (16, .athrow, 1), (17, .aload_n 0, 1), (18, .getfield 10, 3), (21, .getfield 88, 3), (24, .aload_n 0, 1), (25, .getfield 10, 3), (28, .getfield 82, 3), (31, .invokevirtual 331, 3), (34, .istore_n 2, 1), (35, .iconst (-1), 1), (36, .istore_n 3, 1), (37, .iconst 0, 1), (38, .istore 4, 2), (40, .iconst 0, 1), (41, .istore 5, 2), (43, .iload 5, 2), (45, .aload_n 0, 1), (46, .getfield 10, 3), (49, .getfield 82, 3), (52, .getfield 112, 3), (55, .getfield 116, 3), (58, .getfield 122, 3), (61, .if_icmp .ge 62, 3), (64, .iconst 1, 1), (65, .istore 6, 2), (67, .iload 6, 2), (69, .bipush 20, 2), (71, .if_icmp .gt 46, 3), (74, .aload_n 0, 1), (75, .getfield 10, 3), (78, .getfield 82, 3), (81, .iload_n 2, 1), (82, .iload 5, 2), (84, .iload 6, 2), (86, .invokevirtual 335, 3), (89, .istore 7, 2), (91, .iload 7, 2), (93, .iload 4, 2), (95, .if_icmp .le 16, 3), (98, .iload 7, 2), (100, .istore 4, 2), (102, .bipush 100, 2), (104, .iload 5, 2), (106, .imul, 1), (107, .iload 6, 2), (109, .iadd, 1), (110, .istore_n 3, 1), (111, .iinc 6 1, 3), (114, .goto (-47), 3), (117, .iinc 5 1, 3), (120, .goto (-77), 3), (123, .iload_n 1, 1), (124, .ifCond .ne 7, 3), (127, .iload_n 3, 1), (128, .goto 5, 3), (131, .iload 4, 2), (133, .ireturn, 1)]
theorem t_X12_look : jv_dec cX12_look t0_X12_look = true := by decide +kernel
def M_X12_look : jm := (yX12_look, cX12_look, 8, (some .int), 6, 100, [])
theorem lk_X12_335 : jv_lk RX12 335 M_X11_lesserSide := Or.inr ⟨"SpaceWarden", (jv_at 1308 (by decide +kernel))⟩
set_option maxRecDepth 20000 in
theorem me_X11_lesserSide : jv_me M_X11_lesserSide 3 := ⟨(jv_in5 (List.mem_of_getElem? (i := 191) rfl)), (jv_at 163 (by decide +kernel)), ⟨by decide, by decide⟩, by decide +kernel⟩
theorem mv_X11_lesserSide : jv_mv M_X11_lesserSide := ⟨(jv_at 1310 (by decide +kernel)), (jv_at 90 (by decide +kernel))⟩
def f_X12_look_h67 (R43 : Nat → Int32 → Int32 → Int32 → Int32 → Int32 → jh → Option ((Int32 ⊕ String) × jh)) (K43 : Int32 → Int32 → Int32 → jh → Option ((Int32 ⊕ String) × jh)) (K67 : Nat → Int32 → Int32 → Int32 → Int32 → Int32 → jh → Option ((Int32 ⊕ String) × jh)) (R67 : Nat → Int32 → Int32 → Int32 → Int32 → Int32 → Int32 → jh → Option ((Int32 ⊕ String) × jh)) (x0 : Nat) (x1 : Int32) (x2 : Int32) (x3 : Int32) (x4 : Int32) (x5 : Int32) (x6 : Int32) (h : jh) : Option ((Int32 ⊕ String) × jh) :=
  (if 20 < x6 then
  K67 x0 x1 x2 x3 x4 x5 h
  else
  gR h x0 10 0 fun v15 =>
  gR h v15 6 0 fun v16 =>
  cV h v16 9 (f_X11_lesserSide v16 x2 x5 x6 h) fun v17 h18 =>
  (if v17 ≤ x4 then
  R67 x0 x1 x2 x3 x4 x5 (x6 + 1) h18
  else
  R67 x0 x1 x2 ((100 * x5) + x6) v17 x5 (x6 + 1) h18))
theorem o_f_X12_look_h67 {X : jx} {b0 : Nat × Nat} {R43 : Nat → Int32 → Int32 → Int32 → Int32 → Int32 → jh → Option ((Int32 ⊕ String) × jh)} {K43 : Int32 → Int32 → Int32 → jh → Option ((Int32 ⊕ String) × jh)} {K67 : Nat → Int32 → Int32 → Int32 → Int32 → Int32 → jh → Option ((Int32 ⊕ String) × jh)} (hR43 : ∀ (x0 : Nat) (x1 : Int32) (x2 : Int32) (x3 : Int32) (x4 : Int32) (x5 : Int32) (h : jh), jv_O X M_X12_look b0 jeIX 43 [some (.ref (x0)), some (.int (x1)), some (.int (x2)), some (.int (x3)), some (.int (x4)), some (.int (x5)), none, none] [] h (R43 x0 x1 x2 x3 x4 x5 h)) (hK43 : ∀ (x1 : Int32) (x3 : Int32) (x4 : Int32) (h : jh), jv_O X M_X12_look b0 jeIX 123 [none, some (.int (x1)), none, some (.int (x3)), some (.int (x4)), none, none, none] [] h (K43 x1 x3 x4 h)) (hK67 : ∀ (x0 : Nat) (x1 : Int32) (x2 : Int32) (x3 : Int32) (x4 : Int32) (x5 : Int32) (h : jh), jv_O X M_X12_look b0 jeIX 117 [some (.ref (x0)), some (.int (x1)), some (.int (x2)), some (.int (x3)), some (.int (x4)), some (.int (x5)), none, none] [] h (K67 x0 x1 x2 x3 x4 x5 h)) : ∀ (x0 : Nat) (x1 : Int32) (x2 : Int32) (x3 : Int32) (x4 : Int32) (x5 : Int32) (x6 : Int32) (h : jh), jv_O X M_X12_look b0 jeIX 67 [some (.ref (x0)), some (.int (x1)), some (.int (x2)), some (.int (x3)), some (.int (x4)), some (.int (x5)), some (.int (x6)), none] [] h (jlp7 (f_X12_look_h67 R43 K43 K67) jfu x0 x1 x2 x3 x4 x5 x6 h) := by
  refine jlp7_ok (P := fun x0 x1 x2 x3 x4 x5 x6 h o => jv_O X M_X12_look b0 jeIX 67 [some (.ref (x0)), some (.int (x1)), some (.int (x2)), some (.int (x3)), some (.int (x4)), some (.int (x5)), some (.int (x6)), none] [] h o) (fun R67 hR67 => ?_) (fun _ _ _ _ _ _ _ _  => jv_none rfl) jfu
  intro x0 x1 x2 x3 x4 x5 x6 h
  unfold f_X12_look_h67
  refine jv_iload (jv_dk t_X12_look (k := 33) rfl) rfl ?_
  refine jv_bipush (v := 20) (jv_dk t_X12_look (k := 34) rfl) (by decide) ?_
  refine jv_icmp_gt (tgt := 117) (jv_dk t_X12_look (k := 35) rfl) rfl (fun c14 => ?_) (fun c14 => ?_)
  · refine jv_le_row (jv_le_s (jv_le_s (jv_le_s (jv_le_s (jv_le_s (jv_le_s (jv_le_n (jv_le_n (jv_le_nil))))))))) ?_
    exact hK67 _ _ _ _ _ _ _ 
  · show jv_O _ _ _ _ 74 _ _ _ _
    refine jv_aload_n (jv_dk t_X12_look (k := 36) rfl) rfl rfl (Or.inr ⟨_, rfl⟩) ?_
    refine jv_gR (jv_dk t_X12_look (k := 37) rfl) fl_X12_10 (fun v15 => ?_)
    refine jv_gR (jv_dk t_X12_look (k := 38) rfl) fl_X12_82 (fun v16 => ?_)
    refine jv_iload_n (jv_dk t_X12_look (k := 39) rfl) rfl rfl ?_
    refine jv_iload (jv_dk t_X12_look (k := 40) rfl) rfl ?_
    refine jv_iload (jv_dk t_X12_look (k := 41) rfl) rfl ?_
    refine jv_callV (en' := jeI) (pv := jpI) (As := [.int (x2), .int (x5), .int (x6)]) (S := []) (jv_dk t_X12_look (k := 42) rfl) (fun _ => rfl) lk_X12_335 me_X11_lesserSide mv_X11_lesserSide ⟨by decide, by decide⟩ rfl rfl rfl (Nat.le_of_ble_eq_true rfl) (P_X11_lesserSide X v16 x2 x5 x6 h) (fun v17 h18 => ?_)
    show jv_O X M_X12_look _ jeIX 89 [some (.ref (x0)), some (.int (x1)), some (.int (x2)), some (.int (x3)), some (.int (x4)), some (.int (x5)), some (.int (x6)), none] [.int (v17)] h18 _
    refine jv_istore (L' := [some (.ref (x0)), some (.int (x1)), some (.int (x2)), some (.int (x3)), some (.int (x4)), some (.int (x5)), some (.int (x6)), some (.int (v17))]) (jv_dk t_X12_look (k := 43) rfl) (Nat.le_of_ble_eq_true rfl) rfl ?_
    refine jv_iload (jv_dk t_X12_look (k := 44) rfl) rfl ?_
    refine jv_iload (jv_dk t_X12_look (k := 45) rfl) rfl ?_
    refine jv_icmp_le (tgt := 111) (jv_dk t_X12_look (k := 46) rfl) rfl (fun c19 => ?_) (fun c19 => ?_)
    · refine jv_iinc (v := 1) (L' := [some (.ref (x0)), some (.int (x1)), some (.int (x2)), some (.int (x3)), some (.int (x4)), some (.int (x5)), some (.int (x6 + 1)), some (.int (v17))]) (jv_dk t_X12_look (k := 55) rfl) rfl (by decide) rfl ?_
      refine jv_goto (tgt := 67) (jv_dk t_X12_look (k := 56) rfl) rfl ?_
      refine jv_le_row (jv_le_s (jv_le_s (jv_le_s (jv_le_s (jv_le_s (jv_le_s (jv_le_s (jv_le_n (jv_le_nil))))))))) ?_
      exact hR67 _ _ _ _ _ _ _ _ 
    · show jv_O _ _ _ _ 98 _ _ _ _
      refine jv_iload (jv_dk t_X12_look (k := 47) rfl) rfl ?_
      refine jv_istore (L' := [some (.ref (x0)), some (.int (x1)), some (.int (x2)), some (.int (x3)), some (.int (v17)), some (.int (x5)), some (.int (x6)), some (.int (v17))]) (jv_dk t_X12_look (k := 48) rfl) (Nat.le_of_ble_eq_true rfl) rfl ?_
      refine jv_bipush (v := 100) (jv_dk t_X12_look (k := 49) rfl) (by decide) ?_
      refine jv_iload (jv_dk t_X12_look (k := 50) rfl) rfl ?_
      refine jv_imul (jv_dk t_X12_look (k := 51) rfl) ?_
      refine jv_iload (jv_dk t_X12_look (k := 52) rfl) rfl ?_
      refine jv_iadd (jv_dk t_X12_look (k := 53) rfl) ?_
      refine jv_istore_n (L' := [some (.ref (x0)), some (.int (x1)), some (.int (x2)), some (.int ((100 * x5) + x6)), some (.int (v17)), some (.int (x5)), some (.int (x6)), some (.int (v17))]) (jv_dk t_X12_look (k := 54) rfl) rfl (Nat.le_of_ble_eq_true rfl) rfl ?_
      refine jv_iinc (v := 1) (L' := [some (.ref (x0)), some (.int (x1)), some (.int (x2)), some (.int ((100 * x5) + x6)), some (.int (v17)), some (.int (x5)), some (.int (x6 + 1)), some (.int (v17))]) (jv_dk t_X12_look (k := 55) rfl) rfl (by decide) rfl ?_
      refine jv_goto (tgt := 67) (jv_dk t_X12_look (k := 56) rfl) rfl ?_
      refine jv_le_row (jv_le_s (jv_le_s (jv_le_s (jv_le_s (jv_le_s (jv_le_s (jv_le_s (jv_le_n (jv_le_nil))))))))) ?_
      exact hR67 _ _ _ _ _ _ _ _ 
def f_X12_look_h43 (K43 : Int32 → Int32 → Int32 → jh → Option ((Int32 ⊕ String) × jh)) (R43 : Nat → Int32 → Int32 → Int32 → Int32 → Int32 → jh → Option ((Int32 ⊕ String) × jh)) (x0 : Nat) (x1 : Int32) (x2 : Int32) (x3 : Int32) (x4 : Int32) (x5 : Int32) (h : jh) : Option ((Int32 ⊕ String) × jh) :=
  gR h x0 10 0 fun v8 =>
  gR h v8 6 0 fun v9 =>
  gR h v9 9 1 fun v10 =>
  gR h v10 2 0 fun v11 =>
  gI h v11 7 1 fun v12 =>
  (if v12 ≤ x5 then
  K43 x1 x3 x4 h
  else
  jlp7 (f_X12_look_h67 R43 K43 (fun y21 y22 y23 y24 y25 y26 h20 =>
  R43 y21 y22 y23 y24 y25 (y26 + 1) h20)) jfu x0 x1 x2 x3 x4 x5 1 h)
theorem o_f_X12_look_h43 {X : jx} {b0 : Nat × Nat} {K43 : Int32 → Int32 → Int32 → jh → Option ((Int32 ⊕ String) × jh)} (hK43 : ∀ (x1 : Int32) (x3 : Int32) (x4 : Int32) (h : jh), jv_O X M_X12_look b0 jeIX 123 [none, some (.int (x1)), none, some (.int (x3)), some (.int (x4)), none, none, none] [] h (K43 x1 x3 x4 h)) : ∀ (x0 : Nat) (x1 : Int32) (x2 : Int32) (x3 : Int32) (x4 : Int32) (x5 : Int32) (h : jh), jv_O X M_X12_look b0 jeIX 43 [some (.ref (x0)), some (.int (x1)), some (.int (x2)), some (.int (x3)), some (.int (x4)), some (.int (x5)), none, none] [] h (jlp6 (f_X12_look_h43 K43) jfu x0 x1 x2 x3 x4 x5 h) := by
  refine jlp6_ok (P := fun x0 x1 x2 x3 x4 x5 h o => jv_O X M_X12_look b0 jeIX 43 [some (.ref (x0)), some (.int (x1)), some (.int (x2)), some (.int (x3)), some (.int (x4)), some (.int (x5)), none, none] [] h o) (fun R43 hR43 => ?_) (fun _ _ _ _ _ _ _  => jv_none rfl) jfu
  intro x0 x1 x2 x3 x4 x5 h
  unfold f_X12_look_h43
  refine jv_iload (jv_dk t_X12_look (k := 23) rfl) rfl ?_
  refine jv_aload_n (jv_dk t_X12_look (k := 24) rfl) rfl rfl (Or.inr ⟨_, rfl⟩) ?_
  refine jv_gR (jv_dk t_X12_look (k := 25) rfl) fl_X12_10 (fun v8 => ?_)
  refine jv_gR (jv_dk t_X12_look (k := 26) rfl) fl_X12_82 (fun v9 => ?_)
  refine jv_gR (jv_dk t_X12_look (k := 27) rfl) fl_X12_112 (fun v10 => ?_)
  refine jv_gR (jv_dk t_X12_look (k := 28) rfl) fl_X12_116 (fun v11 => ?_)
  refine jv_gI (jv_dk t_X12_look (k := 29) rfl) fl_X12_122 (fun v12 => ?_)
  refine jv_icmp_ge (tgt := 123) (jv_dk t_X12_look (k := 30) rfl) rfl (fun c13 => ?_) (fun c13 => ?_)
  · refine jv_le_row (jv_le_n (jv_le_s (jv_le_n (jv_le_s (jv_le_s (jv_le_n (jv_le_n (jv_le_n (jv_le_nil))))))))) ?_
    exact hK43 _ _ _ _ 
  · show jv_O _ _ _ _ 64 _ _ _ _
    refine jv_iconst (v := 1) (jv_dk t_X12_look (k := 31) rfl) (by decide) ?_
    refine jv_istore (L' := [some (.ref (x0)), some (.int (x1)), some (.int (x2)), some (.int (x3)), some (.int (x4)), some (.int (x5)), some (.int (1)), none]) (jv_dk t_X12_look (k := 32) rfl) (Nat.le_of_ble_eq_true rfl) rfl ?_
    refine o_f_X12_look_h67 hR43 hK43 (fun y21 y22 y23 y24 y25 y26 h20 => ?_) _ _ _ _ _ _ _ _ 
    show jv_O X M_X12_look _ jeIX 117 [some (.ref (y21)), some (.int (y22)), some (.int (y23)), some (.int (y24)), some (.int (y25)), some (.int (y26)), none, none] [] h20 _
    refine jv_iinc (v := 1) (L' := [some (.ref (y21)), some (.int (y22)), some (.int (y23)), some (.int (y24)), some (.int (y25)), some (.int (y26 + 1)), none, none]) (jv_dk t_X12_look (k := 57) rfl) rfl (by decide) rfl ?_
    refine jv_goto (tgt := 43) (jv_dk t_X12_look (k := 58) rfl) rfl ?_
    exact hR43 _ _ _ _ _ _ _ 
def f_X12_look_b17 (x0 : Nat) (x1 : Int32) (h : jh) : Option ((Int32 ⊕ String) × jh) :=
  gR h x0 10 0 fun v2 =>
  gR h v2 6 2 fun v3 =>
  gR h x0 10 0 fun v4 =>
  gR h v4 6 0 fun v5 =>
  cV h v3 1 (f_X3_fitting v3 v5 h) fun v6 h7 =>
  jlp6 (f_X12_look_h43 (fun y28 y29 y30 h27 =>
  (if ¬ y28 = 0 then
  some (.inl y30, h27)
  else
  some (.inl y29, h27)))) jfu x0 x1 v6 (-1) 0 0 h7
theorem o_f_X12_look_b17 {X : jx} {b0 : Nat × Nat} (x0 : Nat) (x1 : Int32) (h : jh) : jv_O X M_X12_look b0 jeIX 17 [some (.ref (x0)), some (.int (x1)), none, none, none, none, none, none] [] h (f_X12_look_b17 x0 x1 h) := by
  unfold f_X12_look_b17
  refine jv_aload_n (jv_dk t_X12_look (k := 9) rfl) rfl rfl (Or.inr ⟨_, rfl⟩) ?_
  refine jv_gR (jv_dk t_X12_look (k := 10) rfl) fl_X12_10 (fun v2 => ?_)
  refine jv_gR (jv_dk t_X12_look (k := 11) rfl) fl_X12_88 (fun v3 => ?_)
  refine jv_aload_n (jv_dk t_X12_look (k := 12) rfl) rfl rfl (Or.inr ⟨_, rfl⟩) ?_
  refine jv_gR (jv_dk t_X12_look (k := 13) rfl) fl_X12_10 (fun v4 => ?_)
  refine jv_gR (jv_dk t_X12_look (k := 14) rfl) fl_X12_82 (fun v5 => ?_)
  refine jv_callV (en' := jeI) (pv := jpI) (As := [.ref (v5)]) (S := []) (jv_dk t_X12_look (k := 15) rfl) (fun _ => rfl) lk_X12_331 me_X3_fitting mv_X3_fitting ⟨by decide, by decide⟩ rfl rfl rfl (Nat.le_of_ble_eq_true rfl) (P_X3_fitting X v3 v5 h) (fun v6 h7 => ?_)
  show jv_O X M_X12_look _ jeIX 34 [some (.ref (x0)), some (.int (x1)), none, none, none, none, none, none] [.int (v6)] h7 _
  refine jv_istore_n (L' := [some (.ref (x0)), some (.int (x1)), some (.int (v6)), none, none, none, none, none]) (jv_dk t_X12_look (k := 16) rfl) rfl (Nat.le_of_ble_eq_true rfl) rfl ?_
  refine jv_iconst (v := (-1)) (jv_dk t_X12_look (k := 17) rfl) (by decide) ?_
  refine jv_istore_n (L' := [some (.ref (x0)), some (.int (x1)), some (.int (v6)), some (.int ((-1))), none, none, none, none]) (jv_dk t_X12_look (k := 18) rfl) rfl (Nat.le_of_ble_eq_true rfl) rfl ?_
  refine jv_iconst (v := 0) (jv_dk t_X12_look (k := 19) rfl) (by decide) ?_
  refine jv_istore (L' := [some (.ref (x0)), some (.int (x1)), some (.int (v6)), some (.int ((-1))), some (.int (0)), none, none, none]) (jv_dk t_X12_look (k := 20) rfl) (Nat.le_of_ble_eq_true rfl) rfl ?_
  refine jv_iconst (v := 0) (jv_dk t_X12_look (k := 21) rfl) (by decide) ?_
  refine jv_istore (L' := [some (.ref (x0)), some (.int (x1)), some (.int (v6)), some (.int ((-1))), some (.int (0)), some (.int (0)), none, none]) (jv_dk t_X12_look (k := 22) rfl) (Nat.le_of_ble_eq_true rfl) rfl ?_
  refine o_f_X12_look_h43 (fun y28 y29 y30 h27 => ?_) _ _ _ _ _ _ _ 
  show jv_O X M_X12_look _ jeIX 123 [none, some (.int (y28)), none, some (.int (y29)), some (.int (y30)), none, none, none] [] h27 _
  refine jv_iload_n (jv_dk t_X12_look (k := 59) rfl) rfl rfl ?_
  refine jv_if_ne (tgt := 131) (jv_dk t_X12_look (k := 60) rfl) rfl (fun c31 => ?_) (fun c31 => ?_)
  · refine jv_iload (jv_dk t_X12_look (k := 63) rfl) rfl ?_
    exact jv_iret (ty := .int) (jv_dk t_X12_look (k := 64) rfl) rfl rfl rfl
  · show jv_O _ _ _ _ 127 _ _ _ _
    refine jv_iload_n (jv_dk t_X12_look (k := 61) rfl) rfl rfl ?_
    refine jv_goto (tgt := 133) (jv_dk t_X12_look (k := 62) rfl) rfl ?_
    exact jv_iret (ty := .int) (jv_dk t_X12_look (k := 64) rfl) rfl rfl rfl
def f_X12_look (a0 : Nat) (a1 : Int32) (h : jh) : Option ((Int32 ⊕ String) × jh) :=
  (if a1 = 0 then
  f_X12_look_b17 a0 a1 h
  else
  (if a1 = 1 then
  f_X12_look_b17 a0 a1 h
  else
  some (.inr "java/util/NoSuchElementException", jt h)))
theorem P_X12_look (X : jx) (a0 : Nat) (a1 : Int32) (h : jh) : jv_P X M_X12_look jeIX [.ref (a0), .int (a1)] h (f_X12_look a0 a1 h) := by
  refine jv_P.of (by decide) rfl (by simp [Value.category]) (Nat.le_of_ble_eq_true rfl) ?_
  show jv_O X M_X12_look (h.1, h.2.1) jeIX 0 [some (.ref (a0)), some (.int (a1)), none, none, none, none, none, none] [] h (f_X12_look a0 a1 h)
  unfold f_X12_look
  refine jv_iload_n (jv_dk t_X12_look (k := 0) rfl) rfl rfl ?_
  refine jv_if_eq (tgt := 17) (jv_dk t_X12_look (k := 1) rfl) rfl (fun c1 => ?_) (fun c1 => ?_)
  · exact o_f_X12_look_b17 _ _ _ 
  · show jv_O _ _ _ _ 4 _ _ _ _
    refine jv_iload_n (jv_dk t_X12_look (k := 2) rfl) rfl rfl ?_
    refine jv_iconst (v := 1) (jv_dk t_X12_look (k := 3) rfl) (by decide) ?_
    refine jv_icmp_eq (tgt := 17) (jv_dk t_X12_look (k := 4) rfl) rfl (fun c32 => ?_) (fun c32 => ?_)
    · exact o_f_X12_look_b17 _ _ _ 
    · show jv_O _ _ _ _ 9 _ _ _ _
      exact jv_throw (jv_dk t_X12_look (k := 5) rfl) (jv_dk t_X12_look (k := 6) rfl) (jv_dk t_X12_look (k := 7) rfl) (jv_dk t_X12_look (k := 8) rfl) rfl rfl (by decide) tw_146_148 (Nat.le_of_ble_eq_true rfl) ⟨by decide, by decide⟩ rfl
def t0_X12_forget : List (Nat × Instr × Nat) := [(0, .aload_n 0, 1), (1, .getfield 10, 3), (4, .getfield 88, 3), (7, .iconst 0, 1), (8, .putfield 92, 3), (11, .return_, 1)]
theorem t_X12_forget : jv_dec cX12_forget t0_X12_forget = true := by decide +kernel
def M_X12_forget : jm := (yX12_forget, cX12_forget, 1, none, 0, 0, [])
def f_X12_forget (a0 : Nat) (h : jh) : Option (Unit × jh) :=
  gR h a0 10 0 fun v1 =>
  gR h v1 6 2 fun v2 =>
  pV h v2 1 3 (.int (0)) fun h3 =>
  some ((), h3)
theorem P_X12_forget (X : jx) (a0 : Nat) (h : jh) : jv_P X M_X12_forget jeV [.ref (a0)] h (f_X12_forget a0 h) := by
  refine jv_P.of (by decide) rfl (by simp [Value.category]) (Nat.le_of_ble_eq_true rfl) ?_
  show jv_O X M_X12_forget (h.1, h.2.1) jeV 0 [some (.ref (a0))] [] h (f_X12_forget a0 h)
  unfold f_X12_forget
  refine jv_aload_n (jv_dk t_X12_forget (k := 0) rfl) rfl rfl (Or.inr ⟨_, rfl⟩) ?_
  refine jv_gR (jv_dk t_X12_forget (k := 1) rfl) fl_X12_10 (fun v1 => ?_)
  refine jv_gR (jv_dk t_X12_forget (k := 2) rfl) fl_X12_88 (fun v2 => ?_)
  refine jv_iconst (v := 0) (jv_dk t_X12_forget (k := 3) rfl) (by decide) ?_
  refine jv_pV (jv_dk t_X12_forget (k := 4) rfl) fl_X12_92 kX3 (Or.inl rfl) rfl rfl rfl (fun h3 => ?_)
  exact jv_vret (jv_dk t_X12_forget (k := 5) rfl) rfl rfl
def t0_X12_draw : List (Nat × Instr × Nat) := [(0, .aload_n 0, 1), (1, .aload_n 0, 1), (2, .getfield 48, 3), (5, .ldc_w 373, 3), (8, .imul, 1), (9, .sipush 12345, 3), (12, .iadd, 1), (13, .putfield 48, 3), (16, .iload_n 1, 1), (17, .iconst 1, 1), (18, .if_icmp .ge 7, 3), (21, .iconst 0, 1), (22, .goto 16, 3), (25, .aload_n 0, 1), (26, .getfield 48, 3), (29, .bipush 16, 2), (31, .iushr, 1), (32, .sipush 32767, 3), (35, .iand, 1), (36, .iload_n 1, 1), (37, .irem, 1), (38, .ireturn, 1)]
theorem t_X12_draw : jv_dec cX12_draw t0_X12_draw = true := by decide +kernel
def M_X12_draw : jm := (yX12_draw, cX12_draw, 2, (some .int), 0, 0, [])
theorem cn_X12_373 : Cond.constant RX12 373 1103515245 ∈ lw_tbl := (jv_at 1330 (by decide +kernel))
def f_X12_draw (a0 : Nat) (a1 : Int32) (h : jh) : Option (Int32 × jh) :=
  gI h a0 10 7 fun v1 =>
  pV h a0 10 7 (.int ((v1 * 1103515245) + 12345)) fun h2 =>
  (if 1 ≤ a1 then
  gI h2 a0 10 7 fun v4 =>
  if a1 = 0 then none else
  some ((((v4.toUInt32 >>> ((16 : Int32).toUInt32 &&& Int32.toUInt32 31)).toInt32) &&& 32767) - (((v4.toUInt32 >>> ((16 : Int32).toUInt32 &&& Int32.toUInt32 31)).toInt32) &&& 32767) / a1 * a1, h2)
  else
  some (0, h2))
theorem P_X12_draw (X : jx) (a0 : Nat) (a1 : Int32) (h : jh) : jv_P X M_X12_draw jeI [.ref (a0), .int (a1)] h (f_X12_draw a0 a1 h) := by
  refine jv_P.of (by decide) rfl (by simp [Value.category]) (Nat.le_of_ble_eq_true rfl) ?_
  show jv_O X M_X12_draw (h.1, h.2.1) jeI 0 [some (.ref (a0)), some (.int (a1))] [] h (f_X12_draw a0 a1 h)
  unfold f_X12_draw
  refine jv_aload_n (jv_dk t_X12_draw (k := 0) rfl) rfl rfl (Or.inr ⟨_, rfl⟩) ?_
  refine jv_aload_n (jv_dk t_X12_draw (k := 1) rfl) rfl rfl (Or.inr ⟨_, rfl⟩) ?_
  refine jv_gI (jv_dk t_X12_draw (k := 2) rfl) fl_X12_48 (fun v1 => ?_)
  refine jv_ldcw (jv_dk t_X12_draw (k := 3) rfl) cn_X12_373 ?_
  refine jv_imul (jv_dk t_X12_draw (k := 4) rfl) ?_
  refine jv_sipush (v := 12345) (jv_dk t_X12_draw (k := 5) rfl) (by decide) ?_
  refine jv_iadd (jv_dk t_X12_draw (k := 6) rfl) ?_
  refine jv_pV (jv_dk t_X12_draw (k := 7) rfl) fl_X12_48 kX12 (Or.inl rfl) rfl rfl rfl (fun h2 => ?_)
  refine jv_iload_n (jv_dk t_X12_draw (k := 8) rfl) rfl rfl ?_
  refine jv_iconst (v := 1) (jv_dk t_X12_draw (k := 9) rfl) (by decide) ?_
  refine jv_icmp_ge (tgt := 25) (jv_dk t_X12_draw (k := 10) rfl) rfl (fun c3 => ?_) (fun c3 => ?_)
  · refine jv_aload_n (jv_dk t_X12_draw (k := 13) rfl) rfl rfl (Or.inr ⟨_, rfl⟩) ?_
    refine jv_gI (jv_dk t_X12_draw (k := 14) rfl) fl_X12_48 (fun v4 => ?_)
    refine jv_bipush (v := 16) (jv_dk t_X12_draw (k := 15) rfl) (by decide) ?_
    refine jv_iushr (jv_dk t_X12_draw (k := 16) rfl) ?_
    refine jv_sipush (v := 32767) (jv_dk t_X12_draw (k := 17) rfl) (by decide) ?_
    refine jv_iand (jv_dk t_X12_draw (k := 18) rfl) ?_
    refine jv_iload_n (jv_dk t_X12_draw (k := 19) rfl) rfl rfl ?_
    by_cases c5 : a1 = 0
    · rw [if_pos c5]; exact jv_none rfl
    rw [if_neg c5]
    refine jv_irem (jv_dk t_X12_draw (k := 20) rfl) c5 ?_
    exact jv_iret (ty := .int) (jv_dk t_X12_draw (k := 21) rfl) rfl rfl rfl
  · show jv_O _ _ _ _ 21 _ _ _ _
    refine jv_iconst (v := 0) (jv_dk t_X12_draw (k := 11) rfl) (by decide) ?_
    refine jv_goto (tgt := 38) (jv_dk t_X12_draw (k := 12) rfl) rfl ?_
    exact jv_iret (ty := .int) (jv_dk t_X12_draw (k := 21) rfl) rfl rfl rfl
def t0_X12_drawKind : List (Nat × Instr × Nat) := [(0, .aload_n 0, 1), (1, .iconst 3, 1), (2, .invokevirtual 350, 3), (5, .istore_n 1, 1), (6, .iload_n 1, 1), (7, .ifCond .ne 7, 3), (10, .iconst 1, 1), (11, .goto 13, 3), (14, .iload_n 1, 1), (15, .iconst 1, 1), (16, .if_icmp .ne 7, 3), (19, .iconst 0, 1), (20, .goto 4, 3), (23, .iconst 2, 1), (24, .ireturn, 1)]
theorem t_X12_drawKind : jv_dec cX12_drawKind t0_X12_drawKind = true := by decide +kernel
def M_X12_drawKind : jm := (yX12_drawKind, cX12_drawKind, 2, (some .int), 1, 21, [])
theorem lk_X12_350 : Cond.methodLink RX12 350 M_X12_draw.1 ∈ lw_tbl := (jv_at 1326 (by decide +kernel))
set_option maxRecDepth 20000 in
theorem me_X12_draw : jv_me M_X12_draw 1 := ⟨(jv_in5 (List.mem_of_getElem? (i := 209) rfl)), (jv_at 161 (by decide +kernel)), ⟨by decide, by decide⟩, by decide +kernel⟩
theorem mv_X12_draw : jv_mv M_X12_draw := ⟨(jv_at 1328 (by decide +kernel)), (jv_at 92 (by decide +kernel))⟩
def f_X12_drawKind (a0 : Nat) (h : jh) : Option (Int32 × jh) :=
  cV h a0 10 (f_X12_draw a0 3 h) fun v1 h2 =>
  (if ¬ v1 = 0 then
  (if ¬ v1 = 1 then
  some (2, h2)
  else
  some (0, h2))
  else
  some (1, h2))
theorem P_X12_drawKind (X : jx) (a0 : Nat) (h : jh) : jv_P X M_X12_drawKind jeI [.ref (a0)] h (f_X12_drawKind a0 h) := by
  refine jv_P.of (by decide) rfl (by simp [Value.category]) (Nat.le_of_ble_eq_true rfl) ?_
  show jv_O X M_X12_drawKind (h.1, h.2.1) jeI 0 [some (.ref (a0)), none] [] h (f_X12_drawKind a0 h)
  unfold f_X12_drawKind
  refine jv_aload_n (jv_dk t_X12_drawKind (k := 0) rfl) rfl rfl (Or.inr ⟨_, rfl⟩) ?_
  refine jv_iconst (v := 3) (jv_dk t_X12_drawKind (k := 1) rfl) (by decide) ?_
  refine jv_callV (en' := jeI) (pv := jpI) (As := [.int (3)]) (S := []) (jv_dk t_X12_drawKind (k := 2) rfl) (fun _ => rfl) (Or.inl lk_X12_350) me_X12_draw mv_X12_draw ⟨by decide, by decide⟩ rfl rfl rfl (Nat.le_of_ble_eq_true rfl) (P_X12_draw X a0 3 h) (fun v1 h2 => ?_)
  show jv_O X M_X12_drawKind _ jeI 5 [some (.ref (a0)), none] [.int (v1)] h2 _
  refine jv_istore_n (L' := [some (.ref (a0)), some (.int (v1))]) (jv_dk t_X12_drawKind (k := 3) rfl) rfl (Nat.le_of_ble_eq_true rfl) rfl ?_
  refine jv_iload_n (jv_dk t_X12_drawKind (k := 4) rfl) rfl rfl ?_
  refine jv_if_ne (tgt := 14) (jv_dk t_X12_drawKind (k := 5) rfl) rfl (fun c3 => ?_) (fun c3 => ?_)
  · refine jv_iload_n (jv_dk t_X12_drawKind (k := 8) rfl) rfl rfl ?_
    refine jv_iconst (v := 1) (jv_dk t_X12_drawKind (k := 9) rfl) (by decide) ?_
    refine jv_icmp_ne (tgt := 23) (jv_dk t_X12_drawKind (k := 10) rfl) rfl (fun c4 => ?_) (fun c4 => ?_)
    · refine jv_iconst (v := 2) (jv_dk t_X12_drawKind (k := 13) rfl) (by decide) ?_
      exact jv_iret (ty := .int) (jv_dk t_X12_drawKind (k := 14) rfl) rfl rfl rfl
    · show jv_O _ _ _ _ 19 _ _ _ _
      refine jv_iconst (v := 0) (jv_dk t_X12_drawKind (k := 11) rfl) (by decide) ?_
      refine jv_goto (tgt := 24) (jv_dk t_X12_drawKind (k := 12) rfl) rfl ?_
      exact jv_iret (ty := .int) (jv_dk t_X12_drawKind (k := 14) rfl) rfl rfl rfl
  · show jv_O _ _ _ _ 10 _ _ _ _
    refine jv_iconst (v := 1) (jv_dk t_X12_drawKind (k := 6) rfl) (by decide) ?_
    refine jv_goto (tgt := 24) (jv_dk t_X12_drawKind (k := 7) rfl) rfl ?_
    exact jv_iret (ty := .int) (jv_dk t_X12_drawKind (k := 14) rfl) rfl rfl rfl
def t0_X12_drawOperand : List (Nat × Instr × Nat) := [(0, .iload_n 1, 1), (1, .bipush 112, 2), (3, .if_icmp .ne 10, 3), (6, .aload_n 0, 1), (7, .bipush 16, 2), (9, .invokevirtual 350, 3), (12, .ireturn, 1), (13, .iload_n 1, 1), (14, .bipush 115, 2), (16, .if_icmp .ne 10, 3), (19, .aload_n 0, 1), (20, .bipush 8, 2), (22, .invokevirtual 350, 3), (25, .ireturn, 1), (26, .iload_n 1, 1), (27, .bipush 109, 2), (29, .if_icmp .ne 12, 3), (32, .iconst 1, 1), (33, .aload_n 0, 1), (34, .bipush 20, 2), (36, .invokevirtual 350, 3), (39, .iadd, 1), (40, .ireturn, 1), (41, .iload_n 1, 1), (42, .bipush 107, 2), (44, .if_icmp .ne 10, 3), (47, .aload_n 0, 1), (48, .invokevirtual 370, 3), (51, .goto 9, 3), (54, .aload_n 0, 1), (55, .bipush 100, 2), (57, .invokevirtual 350, 3), (60, .ireturn, 1)]
theorem t_X12_drawOperand : jv_dec cX12_drawOperand t0_X12_drawOperand = true := by decide +kernel
def M_X12_drawOperand : jm := (yX12_drawOperand, cX12_drawOperand, 2, (some .int), 2, 42, [])
theorem lk_X12_370 : Cond.methodLink RX12 370 M_X12_drawKind.1 ∈ lw_tbl := (jv_at 1337 (by decide +kernel))
set_option maxRecDepth 20000 in
theorem me_X12_drawKind : jv_me M_X12_drawKind 0 := ⟨(jv_in5 (List.mem_of_getElem? (i := 220) rfl)), (jv_at 161 (by decide +kernel)), ⟨by decide, by decide⟩, by decide +kernel⟩
theorem mv_X12_drawKind : jv_mv M_X12_drawKind := ⟨(jv_at 1339 (by decide +kernel)), (jv_at 94 (by decide +kernel))⟩
def f_X12_drawOperand (a0 : Nat) (a1 : Int32) (h : jh) : Option (Int32 × jh) :=
  (if ¬ a1 = 112 then
  (if ¬ a1 = 115 then
  (if ¬ a1 = 109 then
  (if ¬ a1 = 107 then
  cV h a0 10 (f_X12_draw a0 100 h) fun v5 h6 =>
  some (v5, h6)
  else
  cV h a0 10 (f_X12_drawKind a0 h) fun v7 h8 =>
  some (v7, h8))
  else
  cV h a0 10 (f_X12_draw a0 20 h) fun v9 h10 =>
  some (1 + v9, h10))
  else
  cV h a0 10 (f_X12_draw a0 8 h) fun v11 h12 =>
  some (v11, h12))
  else
  cV h a0 10 (f_X12_draw a0 16 h) fun v13 h14 =>
  some (v13, h14))
theorem P_X12_drawOperand (X : jx) (a0 : Nat) (a1 : Int32) (h : jh) : jv_P X M_X12_drawOperand jeI [.ref (a0), .int (a1)] h (f_X12_drawOperand a0 a1 h) := by
  refine jv_P.of (by decide) rfl (by simp [Value.category]) (Nat.le_of_ble_eq_true rfl) ?_
  show jv_O X M_X12_drawOperand (h.1, h.2.1) jeI 0 [some (.ref (a0)), some (.int (a1))] [] h (f_X12_drawOperand a0 a1 h)
  unfold f_X12_drawOperand
  refine jv_iload_n (jv_dk t_X12_drawOperand (k := 0) rfl) rfl rfl ?_
  refine jv_bipush (v := 112) (jv_dk t_X12_drawOperand (k := 1) rfl) (by decide) ?_
  refine jv_icmp_ne (tgt := 13) (jv_dk t_X12_drawOperand (k := 2) rfl) rfl (fun c1 => ?_) (fun c1 => ?_)
  · refine jv_iload_n (jv_dk t_X12_drawOperand (k := 7) rfl) rfl rfl ?_
    refine jv_bipush (v := 115) (jv_dk t_X12_drawOperand (k := 8) rfl) (by decide) ?_
    refine jv_icmp_ne (tgt := 26) (jv_dk t_X12_drawOperand (k := 9) rfl) rfl (fun c2 => ?_) (fun c2 => ?_)
    · refine jv_iload_n (jv_dk t_X12_drawOperand (k := 14) rfl) rfl rfl ?_
      refine jv_bipush (v := 109) (jv_dk t_X12_drawOperand (k := 15) rfl) (by decide) ?_
      refine jv_icmp_ne (tgt := 41) (jv_dk t_X12_drawOperand (k := 16) rfl) rfl (fun c3 => ?_) (fun c3 => ?_)
      · refine jv_iload_n (jv_dk t_X12_drawOperand (k := 23) rfl) rfl rfl ?_
        refine jv_bipush (v := 107) (jv_dk t_X12_drawOperand (k := 24) rfl) (by decide) ?_
        refine jv_icmp_ne (tgt := 54) (jv_dk t_X12_drawOperand (k := 25) rfl) rfl (fun c4 => ?_) (fun c4 => ?_)
        · refine jv_aload_n (jv_dk t_X12_drawOperand (k := 29) rfl) rfl rfl (Or.inr ⟨_, rfl⟩) ?_
          refine jv_bipush (v := 100) (jv_dk t_X12_drawOperand (k := 30) rfl) (by decide) ?_
          refine jv_callV (en' := jeI) (pv := jpI) (As := [.int (100)]) (S := []) (jv_dk t_X12_drawOperand (k := 31) rfl) (fun _ => rfl) (Or.inl lk_X12_350) me_X12_draw mv_X12_draw ⟨by decide, by decide⟩ rfl rfl rfl (Nat.le_of_ble_eq_true rfl) (P_X12_draw X a0 100 h) (fun v5 h6 => ?_)
          show jv_O X M_X12_drawOperand _ jeI 60 [some (.ref (a0)), some (.int (a1))] [.int (v5)] h6 _
          exact jv_iret (ty := .int) (jv_dk t_X12_drawOperand (k := 32) rfl) rfl rfl rfl
        · show jv_O _ _ _ _ 47 _ _ _ _
          refine jv_aload_n (jv_dk t_X12_drawOperand (k := 26) rfl) rfl rfl (Or.inr ⟨_, rfl⟩) ?_
          refine jv_callV (en' := jeI) (pv := jpI) (As := []) (S := []) (jv_dk t_X12_drawOperand (k := 27) rfl) (fun _ => rfl) (Or.inl lk_X12_370) me_X12_drawKind mv_X12_drawKind ⟨by decide, by decide⟩ rfl rfl rfl (Nat.le_of_ble_eq_true rfl) (P_X12_drawKind X a0 h) (fun v7 h8 => ?_)
          show jv_O X M_X12_drawOperand _ jeI 51 [some (.ref (a0)), some (.int (a1))] [.int (v7)] h8 _
          refine jv_goto (tgt := 60) (jv_dk t_X12_drawOperand (k := 28) rfl) rfl ?_
          exact jv_iret (ty := .int) (jv_dk t_X12_drawOperand (k := 32) rfl) rfl rfl rfl
      · show jv_O _ _ _ _ 32 _ _ _ _
        refine jv_iconst (v := 1) (jv_dk t_X12_drawOperand (k := 17) rfl) (by decide) ?_
        refine jv_aload_n (jv_dk t_X12_drawOperand (k := 18) rfl) rfl rfl (Or.inr ⟨_, rfl⟩) ?_
        refine jv_bipush (v := 20) (jv_dk t_X12_drawOperand (k := 19) rfl) (by decide) ?_
        refine jv_callV (en' := jeI) (pv := jpI) (As := [.int (20)]) (S := [.int (1)]) (jv_dk t_X12_drawOperand (k := 20) rfl) (fun _ => rfl) (Or.inl lk_X12_350) me_X12_draw mv_X12_draw ⟨by decide, by decide⟩ rfl rfl rfl (Nat.le_of_ble_eq_true rfl) (P_X12_draw X a0 20 h) (fun v9 h10 => ?_)
        show jv_O X M_X12_drawOperand _ jeI 39 [some (.ref (a0)), some (.int (a1))] [.int (v9), .int (1)] h10 _
        refine jv_iadd (jv_dk t_X12_drawOperand (k := 21) rfl) ?_
        exact jv_iret (ty := .int) (jv_dk t_X12_drawOperand (k := 22) rfl) rfl rfl rfl
    · show jv_O _ _ _ _ 19 _ _ _ _
      refine jv_aload_n (jv_dk t_X12_drawOperand (k := 10) rfl) rfl rfl (Or.inr ⟨_, rfl⟩) ?_
      refine jv_bipush (v := 8) (jv_dk t_X12_drawOperand (k := 11) rfl) (by decide) ?_
      refine jv_callV (en' := jeI) (pv := jpI) (As := [.int (8)]) (S := []) (jv_dk t_X12_drawOperand (k := 12) rfl) (fun _ => rfl) (Or.inl lk_X12_350) me_X12_draw mv_X12_draw ⟨by decide, by decide⟩ rfl rfl rfl (Nat.le_of_ble_eq_true rfl) (P_X12_draw X a0 8 h) (fun v11 h12 => ?_)
      show jv_O X M_X12_drawOperand _ jeI 25 [some (.ref (a0)), some (.int (a1))] [.int (v11)] h12 _
      exact jv_iret (ty := .int) (jv_dk t_X12_drawOperand (k := 13) rfl) rfl rfl rfl
  · show jv_O _ _ _ _ 6 _ _ _ _
    refine jv_aload_n (jv_dk t_X12_drawOperand (k := 3) rfl) rfl rfl (Or.inr ⟨_, rfl⟩) ?_
    refine jv_bipush (v := 16) (jv_dk t_X12_drawOperand (k := 4) rfl) (by decide) ?_
    refine jv_callV (en' := jeI) (pv := jpI) (As := [.int (16)]) (S := []) (jv_dk t_X12_drawOperand (k := 5) rfl) (fun _ => rfl) (Or.inl lk_X12_350) me_X12_draw mv_X12_draw ⟨by decide, by decide⟩ rfl rfl rfl (Nat.le_of_ble_eq_true rfl) (P_X12_draw X a0 16 h) (fun v13 h14 => ?_)
    show jv_O X M_X12_drawOperand _ jeI 12 [some (.ref (a0)), some (.int (a1))] [.int (v13)] h14 _
    exact jv_iret (ty := .int) (jv_dk t_X12_drawOperand (k := 6) rfl) rfl rfl rfl
def t0_X12_live : List (Nat × Instr × Nat) := [(0, .getstatic 346, 3), (3, .aload_n 0, 1), (4, .getstatic 346, 3), (7, .arraylength, 1), (8, .invokevirtual 350, 3), (11, .aaload, 1), (12, .astore_n 1, 1), (13, .iconst 0, 1), (14, .istore_n 2, 1), (15, .iload_n 2, 1), (16, .aload_n 1, 1), (17, .getfield 353, 3), (20, .invokevirtual 357, 3), (23, .if_icmp .ge 32, 3), (26, .iload_n 2, 1), (27, .iconst 5, 1), (28, .if_icmp .ge 27, 3), (31, .aload_n 0, 1), (32, .getfield 40, 3), (35, .iload_n 2, 1), (36, .aload_n 0, 1), (37, .aload_n 1, 1), (38, .getfield 353, 3), (41, .iload_n 2, 1), (42, .invokevirtual 362, 3), (45, .invokevirtual 366, 3), (48, .iastore, 1), (49, .iinc 2 1, 3), (52, .goto (-37), 3), (55, .aload_n 0, 1), (56, .getfield 23, 3), (59, .aload_n 1, 1), (60, .aload_n 0, 1), (61, .getfield 40, 3), (64, .iconst 0, 1), (65, .iaload, 1), (66, .aload_n 0, 1), (67, .getfield 40, 3), (70, .iconst 1, 1), (71, .iaload, 1), (72, .aload_n 0, 1), (73, .getfield 40, 3), (76, .iconst 2, 1), (77, .iaload, 1), (78, .aload_n 0, 1), (79, .getfield 40, 3), (82, .iconst 3, 1), (83, .iaload, 1), (84, .aload_n 0, 1), (85, .getfield 40, 3), (88, .iconst 4, 1), (89, .iaload, 1), (90, .invokevirtual 301, 3), (93, .iconst (-1), 1), (94, .if_icmp .eq 7, 3), (97, .iconst 1, 1), (98, .goto 4, 3), (101, .iconst 0, 1), (102, .ireturn, 1)]
theorem t_X12_live : jv_dec cX12_live t0_X12_live = true := by decide +kernel
def M_X12_live : jm := (yX12_live, cX12_live, 3, (some .boolean), 6, 181, [])
theorem sl_X12_346 : jv_fl RX12 346 "SpaceWarden$Act" "ALL" "[LSpaceWarden$Act;" := Or.inr ⟨"SpaceWarden", (jv_at 1325 (by decide +kernel))⟩
theorem sl_X12_353 : jv_fl RX12 353 "SpaceWarden$Act" "shape" "Ljava/lang/String;" := Or.inr ⟨"SpaceWarden", (jv_at 1936 (by decide +kernel))⟩
theorem lk_X12_357 : jv_lk RX12 357 M_J0_length_8abf5 := Or.inl (jv_at 1331 (by decide +kernel))
theorem lk_X12_362 : jv_lk RX12 362 M_J0_charAt_5068e := Or.inl (jv_at 1332 (by decide +kernel))
theorem lk_X12_366 : Cond.methodLink RX12 366 M_X12_drawOperand.1 ∈ lw_tbl := (jv_at 1333 (by decide +kernel))
set_option maxRecDepth 20000 in
theorem me_X12_drawOperand : jv_me M_X12_drawOperand 1 := ⟨(jv_in5 (List.mem_of_getElem? (i := 216) rfl)), (jv_at 161 (by decide +kernel)), ⟨by decide, by decide⟩, by decide +kernel⟩
theorem mv_X12_drawOperand : jv_mv M_X12_drawOperand := ⟨(jv_at 1335 (by decide +kernel)), (jv_at 93 (by decide +kernel))⟩
def f_X12_live_h15 (K15 : Nat → Nat → jh → Option (Int32 × jh)) (R15 : Nat → Nat → Int32 → jh → Option (Int32 × jh)) (x0 : Nat) (x1 : Nat) (x2 : Int32) (h : jh) : Option (Int32 × jh) :=
  eS x1 fun v4 =>
  tL v4 fun v5 =>
  (if v5 ≤ x2 then
  K15 x0 x1 h
  else
  (if 5 ≤ x2 then
  K15 x0 x1 h
  else
  gR h x0 10 5 fun v8 =>
  eS x1 fun v9 =>
  tC v9 x2 fun v10 =>
  cV h x0 10 (f_X12_drawOperand x0 v10 h) fun v11 h12 =>
  sI h12 v8 x2 v11 fun h13 =>
  R15 x0 x1 (x2 + 1) h13))
theorem o_f_X12_live_h15 {X : jx} {b0 : Nat × Nat} {K15 : Nat → Nat → jh → Option (Int32 × jh)} (hK15 : ∀ (x0 : Nat) (x1 : Nat) (h : jh), jv_O X M_X12_live b0 jeI 55 [some (.ref (x0)), some (.ref (jv_ad X (x1))), none] [] h (K15 x0 x1 h)) : ∀ (x0 : Nat) (x1 : Nat) (x2 : Int32) (h : jh), jv_O X M_X12_live b0 jeI 15 [some (.ref (x0)), some (.ref (jv_ad X (x1))), some (.int (x2))] [] h (jlp3 (f_X12_live_h15 K15) jfu x0 x1 x2 h) := by
  refine jlp3_ok (P := fun x0 x1 x2 h o => jv_O X M_X12_live b0 jeI 15 [some (.ref (x0)), some (.ref (jv_ad X (x1))), some (.int (x2))] [] h o) (fun R15 hR15 => ?_) (fun _ _ _ _  => jv_none rfl) jfu
  intro x0 x1 x2 h
  unfold f_X12_live_h15
  refine jv_iload_n (jv_dk t_X12_live (k := 9) rfl) rfl rfl ?_
  refine jv_aload_n (jv_dk t_X12_live (k := 10) rfl) rfl rfl (Or.inr ⟨_, rfl⟩) ?_
  refine jv_eS (jv_dk t_X12_live (k := 11) rfl) sl_X12_353 (fun v4 => ?_)
  refine jv_tL (jv_dk t_X12_live (k := 12) rfl) lk_X12_357 ⟨by decide, by decide⟩ (Nat.le_of_ble_eq_true rfl) (fun v5 => ?_)
  refine jv_icmp_ge (tgt := 55) (jv_dk t_X12_live (k := 13) rfl) rfl (fun c6 => ?_) (fun c6 => ?_)
  · refine jv_le_row (jv_le_s (jv_le_s (jv_le_n (jv_le_nil)))) ?_
    exact hK15 _ _ _ 
  · show jv_O _ _ _ _ 26 _ _ _ _
    refine jv_iload_n (jv_dk t_X12_live (k := 14) rfl) rfl rfl ?_
    refine jv_iconst (v := 5) (jv_dk t_X12_live (k := 15) rfl) (by decide) ?_
    refine jv_icmp_ge (tgt := 55) (jv_dk t_X12_live (k := 16) rfl) rfl (fun c7 => ?_) (fun c7 => ?_)
    · refine jv_le_row (jv_le_s (jv_le_s (jv_le_n (jv_le_nil)))) ?_
      exact hK15 _ _ _ 
    · show jv_O _ _ _ _ 31 _ _ _ _
      refine jv_aload_n (jv_dk t_X12_live (k := 17) rfl) rfl rfl (Or.inr ⟨_, rfl⟩) ?_
      refine jv_gR (jv_dk t_X12_live (k := 18) rfl) fl_X12_40 (fun v8 => ?_)
      refine jv_iload_n (jv_dk t_X12_live (k := 19) rfl) rfl rfl ?_
      refine jv_aload_n (jv_dk t_X12_live (k := 20) rfl) rfl rfl (Or.inr ⟨_, rfl⟩) ?_
      refine jv_aload_n (jv_dk t_X12_live (k := 21) rfl) rfl rfl (Or.inr ⟨_, rfl⟩) ?_
      refine jv_eS (jv_dk t_X12_live (k := 22) rfl) sl_X12_353 (fun v9 => ?_)
      refine jv_iload_n (jv_dk t_X12_live (k := 23) rfl) rfl rfl ?_
      refine jv_tC (jv_dk t_X12_live (k := 24) rfl) lk_X12_362 ⟨by decide, by decide⟩ (Nat.le_of_ble_eq_true rfl) (fun v10 => ?_)
      refine jv_callV (en' := jeI) (pv := jpI) (As := [.int (v10)]) (S := [.int (x2), .ref (v8)]) (jv_dk t_X12_live (k := 25) rfl) (fun _ => rfl) (Or.inl lk_X12_366) me_X12_drawOperand mv_X12_drawOperand ⟨by decide, by decide⟩ rfl rfl rfl (Nat.le_of_ble_eq_true rfl) (P_X12_drawOperand X x0 v10 h) (fun v11 h12 => ?_)
      show jv_O X M_X12_live _ jeI 48 [some (.ref (x0)), some (.ref (jv_ad X (x1))), some (.int (x2))] [.int (v11), .int (x2), .ref (v8)] h12 _
      refine jv_iastore (jv_dk t_X12_live (k := 26) rfl) (fun h13 => ?_)
      refine jv_iinc (v := 1) (L' := [some (.ref (x0)), some (.ref (jv_ad X (x1))), some (.int (x2 + 1))]) (jv_dk t_X12_live (k := 27) rfl) rfl (by decide) rfl ?_
      refine jv_goto (tgt := 15) (jv_dk t_X12_live (k := 28) rfl) rfl ?_
      exact hR15 _ _ _ _ 
def f_X12_live_b55 (x0 : Nat) (x1 : Nat) (h : jh) : Option (Int32 × jh) :=
  gR h x0 10 2 fun v17 =>
  gR h x0 10 5 fun v18 =>
  aI h v18 0 fun v19 =>
  gR h x0 10 5 fun v20 =>
  aI h v20 1 fun v21 =>
  gR h x0 10 5 fun v22 =>
  aI h v22 2 fun v23 =>
  gR h x0 10 5 fun v24 =>
  aI h v24 3 fun v25 =>
  gR h x0 10 5 fun v26 =>
  aI h v26 4 fun v27 =>
  cV h v17 9 (f_X11_attempt v17 x1 v19 v21 v23 v25 v27 h) fun v28 h29 =>
  (if v28 = (-1) then
  some (0, h29)
  else
  some (1, h29))
theorem o_f_X12_live_b55 {X : jx} {b0 : Nat × Nat} (x0 : Nat) (x1 : Nat) (h : jh) : jv_O X M_X12_live b0 jeI 55 [some (.ref (x0)), some (.ref (jv_ad X (x1))), none] [] h (f_X12_live_b55 x0 x1 h) := by
  unfold f_X12_live_b55
  refine jv_aload_n (jv_dk t_X12_live (k := 29) rfl) rfl rfl (Or.inr ⟨_, rfl⟩) ?_
  refine jv_gR (jv_dk t_X12_live (k := 30) rfl) fl_X12_23 (fun v17 => ?_)
  refine jv_aload_n (jv_dk t_X12_live (k := 31) rfl) rfl rfl (Or.inr ⟨_, rfl⟩) ?_
  refine jv_aload_n (jv_dk t_X12_live (k := 32) rfl) rfl rfl (Or.inr ⟨_, rfl⟩) ?_
  refine jv_gR (jv_dk t_X12_live (k := 33) rfl) fl_X12_40 (fun v18 => ?_)
  refine jv_iconst (v := 0) (jv_dk t_X12_live (k := 34) rfl) (by decide) ?_
  refine jv_iaload (jv_dk t_X12_live (k := 35) rfl) (fun v19 => ?_)
  refine jv_aload_n (jv_dk t_X12_live (k := 36) rfl) rfl rfl (Or.inr ⟨_, rfl⟩) ?_
  refine jv_gR (jv_dk t_X12_live (k := 37) rfl) fl_X12_40 (fun v20 => ?_)
  refine jv_iconst (v := 1) (jv_dk t_X12_live (k := 38) rfl) (by decide) ?_
  refine jv_iaload (jv_dk t_X12_live (k := 39) rfl) (fun v21 => ?_)
  refine jv_aload_n (jv_dk t_X12_live (k := 40) rfl) rfl rfl (Or.inr ⟨_, rfl⟩) ?_
  refine jv_gR (jv_dk t_X12_live (k := 41) rfl) fl_X12_40 (fun v22 => ?_)
  refine jv_iconst (v := 2) (jv_dk t_X12_live (k := 42) rfl) (by decide) ?_
  refine jv_iaload (jv_dk t_X12_live (k := 43) rfl) (fun v23 => ?_)
  refine jv_aload_n (jv_dk t_X12_live (k := 44) rfl) rfl rfl (Or.inr ⟨_, rfl⟩) ?_
  refine jv_gR (jv_dk t_X12_live (k := 45) rfl) fl_X12_40 (fun v24 => ?_)
  refine jv_iconst (v := 3) (jv_dk t_X12_live (k := 46) rfl) (by decide) ?_
  refine jv_iaload (jv_dk t_X12_live (k := 47) rfl) (fun v25 => ?_)
  refine jv_aload_n (jv_dk t_X12_live (k := 48) rfl) rfl rfl (Or.inr ⟨_, rfl⟩) ?_
  refine jv_gR (jv_dk t_X12_live (k := 49) rfl) fl_X12_40 (fun v26 => ?_)
  refine jv_iconst (v := 4) (jv_dk t_X12_live (k := 50) rfl) (by decide) ?_
  refine jv_iaload (jv_dk t_X12_live (k := 51) rfl) (fun v27 => ?_)
  refine jv_callV (en' := jeI) (pv := jpI) (As := [.ref (jv_ad X (x1)), .int (v19), .int (v21), .int (v23), .int (v25), .int (v27)]) (S := []) (jv_dk t_X12_live (k := 52) rfl) (fun _ => rfl) lk_X12_301 me_X11_attempt mv_X11_attempt ⟨by decide, by decide⟩ rfl rfl rfl (Nat.le_of_ble_eq_true rfl) (P_X11_attempt X v17 x1 v19 v21 v23 v25 v27 h) (fun v28 h29 => ?_)
  show jv_O X M_X12_live _ jeI 93 [some (.ref (x0)), some (.ref (jv_ad X (x1))), none] [.int (v28)] h29 _
  refine jv_iconst (v := (-1)) (jv_dk t_X12_live (k := 53) rfl) (by decide) ?_
  refine jv_icmp_eq (tgt := 101) (jv_dk t_X12_live (k := 54) rfl) rfl (fun c30 => ?_) (fun c30 => ?_)
  · refine jv_iconst (v := 0) (jv_dk t_X12_live (k := 57) rfl) (by decide) ?_
    exact jv_iret (ty := .boolean) (jv_dk t_X12_live (k := 58) rfl) rfl rfl rfl
  · show jv_O _ _ _ _ 97 _ _ _ _
    refine jv_iconst (v := 1) (jv_dk t_X12_live (k := 55) rfl) (by decide) ?_
    refine jv_goto (tgt := 102) (jv_dk t_X12_live (k := 56) rfl) rfl ?_
    exact jv_iret (ty := .boolean) (jv_dk t_X12_live (k := 58) rfl) rfl rfl rfl
def f_X12_live (a0 : Nat) (h : jh) : Option (Int32 × jh) :=
  cV h a0 10 (f_X12_draw a0 (Int32.ofNat 11) h) fun v1 h2 =>
  eA v1 fun v3 =>
  jlp3 (f_X12_live_h15 (fun y15 y16 h14 =>
  f_X12_live_b55 y15 y16 h14)) jfu a0 v3 0 h2
theorem P_X12_live (X : jx) (a0 : Nat) (h : jh) : jv_P X M_X12_live jeI [.ref (a0)] h (f_X12_live a0 h) := by
  refine jv_P.of (by decide) rfl (by simp [Value.category]) (Nat.le_of_ble_eq_true rfl) ?_
  show jv_O X M_X12_live (h.1, h.2.1) jeI 0 [some (.ref (a0)), none, none] [] h (f_X12_live a0 h)
  unfold f_X12_live
  refine jv_gs (jv_dk t_X12_live (k := 0) rfl) sl_X12_346 (fun U hK => hK.2.2.2.2.2.2.1.1) ?_
  refine jv_aload_n (jv_dk t_X12_live (k := 1) rfl) rfl rfl (Or.inr ⟨_, rfl⟩) ?_
  refine jv_gs (jv_dk t_X12_live (k := 2) rfl) sl_X12_346 (fun U hK => hK.2.2.2.2.2.2.1.1) ?_
  refine jv_olen (N := 11) (f := fun j => .ref (jv_ad X j)) (jv_dk t_X12_live (k := 3) rfl) (fun U hK => hK.2.2.2.2.2.2.1.2) ?_
  refine jv_callV (en' := jeI) (pv := jpI) (As := [.int (Int32.ofNat 11)]) (S := [.ref (jv_ad X 12)]) (jv_dk t_X12_live (k := 4) rfl) (fun _ => rfl) (Or.inl lk_X12_350) me_X12_draw mv_X12_draw ⟨by decide, by decide⟩ rfl rfl rfl (Nat.le_of_ble_eq_true rfl) (P_X12_draw X a0 (Int32.ofNat 11) h) (fun v1 h2 => ?_)
  show jv_O X M_X12_live _ jeI 11 [some (.ref (a0)), none, none] [.int (v1), .ref (jv_ad X 12)] h2 _
  refine jv_eA (jv_dk t_X12_live (k := 5) rfl) (fun v3 => ?_)
  refine jv_astore_n (L' := [some (.ref (a0)), some (.ref (jv_ad X (v3))), none]) (jv_dk t_X12_live (k := 6) rfl) rfl (Nat.le_of_ble_eq_true rfl) (Or.inr ⟨_, rfl⟩) rfl ?_
  refine jv_iconst (v := 0) (jv_dk t_X12_live (k := 7) rfl) (by decide) ?_
  refine jv_istore_n (L' := [some (.ref (a0)), some (.ref (jv_ad X (v3))), some (.int (0))]) (jv_dk t_X12_live (k := 8) rfl) rfl (Nat.le_of_ble_eq_true rfl) rfl ?_
  refine o_f_X12_live_h15 (fun y15 y16 h14 => ?_) _ _ _ _ 
  show jv_O X M_X12_live _ jeI 55 [some (.ref (y15)), some (.ref (jv_ad X (y16))), none] [] h14 _
  exact o_f_X12_live_b55 _ _ _ 
def t0_X12_years : List (Nat × Instr × Nat) := [(0, .iload_n 3, 1), (1, .ifCond .lt 8, 3), (4, .iload_n 3, 1), (5, .iconst 2, 1), (6, .if_icmp .le 11, 3), (9, .new 146, 3), (12, .dup, 1), (13, .invokespecial 148, 3), (16, .athrow, 1), (17, .iload_n 2, 1), (18, .ifCond .lt 9, 3), (21, .iload_n 2, 1), (22, .bipush 60, 2), (24, .if_icmp .le 11, 3), (27, .new 65, 3), (30, .dup, 1), (31, .invokespecial 67, 3), (34, .athrow, 1), (35, .aload_n 0, 1), (36, .getfield 23, 3), (39, .aload_n 0, 1), (40, .getfield 10, 3), (43, .getfield 82, 3), (46, .invokevirtual 68, 3), (49, .aload_n 0, 1), (50, .iload_n 1, 1), (51, .putfield 48, 3), (54, .iconst 0, 1), (55, .istore 4, 2), (57, .iconst 0, 1), (58, .istore 5, 2), (60, .iload 5, 2), (62, .iload_n 2, 1), (63, .if_icmp .ge 19, 3), (66, .aload_n 0, 1), (67, .invokevirtual 339, 3), (70, .ifCond .eq 6, 3), (73, .iinc 4 1, 3), (76, .iinc 5 1, 3), (79, .goto (-19), 3), (82, .iload_n 3, 1), (83, .lookupswitch 42 #[(0, 25), (1, 39)], 25), (108, .aload_n 0, 1), (109, .getfield 23, 3), (112, .getfield 97, 3), (115, .getfield 101, 3), (118, .invokestatic 106, 3), (121, .ireturn, 1), (122, .iload 4, 2), (124, .ireturn, 1), (125, .aload_n 0, 1), (126, .getfield 23, 3), (129, .invokevirtual 343, 3), (132, .ireturn, 1)]
theorem t_X12_years : jv_dec cX12_years t0_X12_years = true := by decide +kernel
def M_X12_years : jm := (yX12_years, cX12_years, 6, (some .int), 7, 203, [])
theorem lk_X12_339 : Cond.methodLink RX12 339 M_X12_live.1 ∈ lw_tbl := (jv_at 1321 (by decide +kernel))
set_option maxRecDepth 20000 in
theorem me_X12_live : jv_me M_X12_live 0 := ⟨(jv_in5 (List.mem_of_getElem? (i := 204) rfl)), (jv_at 161 (by decide +kernel)), ⟨by decide, by decide⟩, by decide +kernel⟩
theorem mv_X12_live : jv_mv M_X12_live := ⟨(jv_at 1323 (by decide +kernel)), (jv_at 91 (by decide +kernel))⟩
theorem lk_X12_343 : jv_lk RX12 343 M_X11_deepestNumberSpace := Or.inr ⟨"SpaceWarden", (jv_at 1341 (by decide +kernel))⟩
set_option maxRecDepth 20000 in
theorem me_X11_deepestNumberSpace : jv_me M_X11_deepestNumberSpace 0 := ⟨(jv_in5 (List.mem_of_getElem? (i := 224) rfl)), (jv_at 163 (by decide +kernel)), ⟨by decide, by decide⟩, by decide +kernel⟩
theorem mv_X11_deepestNumberSpace : jv_mv M_X11_deepestNumberSpace := ⟨(jv_at 1343 (by decide +kernel)), (jv_at 95 (by decide +kernel))⟩
def f_X12_years_h60 (K60 : Nat → Int32 → Int32 → jh → Option ((Int32 ⊕ String) × jh)) (R60 : Nat → Int32 → Int32 → Int32 → Int32 → jh → Option ((Int32 ⊕ String) × jh)) (x0 : Nat) (x2 : Int32) (x3 : Int32) (x4 : Int32) (x5 : Int32) (h : jh) : Option ((Int32 ⊕ String) × jh) :=
  (if x2 ≤ x5 then
  K60 x0 x3 x4 h
  else
  cV h x0 10 (f_X12_live x0 h) fun v11 h12 =>
  (if v11 = 0 then
  R60 x0 x2 x3 x4 (x5 + 1) h12
  else
  R60 x0 x2 x3 (x4 + 1) (x5 + 1) h12))
theorem o_f_X12_years_h60 {X : jx} {b0 : Nat × Nat} {K60 : Nat → Int32 → Int32 → jh → Option ((Int32 ⊕ String) × jh)} (hK60 : ∀ (x0 : Nat) (x3 : Int32) (x4 : Int32) (h : jh), jv_O X M_X12_years b0 jeIX 82 [some (.ref (x0)), none, none, some (.int (x3)), some (.int (x4)), none] [] h (K60 x0 x3 x4 h)) : ∀ (x0 : Nat) (x2 : Int32) (x3 : Int32) (x4 : Int32) (x5 : Int32) (h : jh), jv_O X M_X12_years b0 jeIX 60 [some (.ref (x0)), none, some (.int (x2)), some (.int (x3)), some (.int (x4)), some (.int (x5))] [] h (jlp5 (f_X12_years_h60 K60) jfu x0 x2 x3 x4 x5 h) := by
  refine jlp5_ok (P := fun x0 x2 x3 x4 x5 h o => jv_O X M_X12_years b0 jeIX 60 [some (.ref (x0)), none, some (.int (x2)), some (.int (x3)), some (.int (x4)), some (.int (x5))] [] h o) (fun R60 hR60 => ?_) (fun _ _ _ _ _ _  => jv_none rfl) jfu
  intro x0 x2 x3 x4 x5 h
  unfold f_X12_years_h60
  refine jv_iload (jv_dk t_X12_years (k := 31) rfl) rfl ?_
  refine jv_iload_n (jv_dk t_X12_years (k := 32) rfl) rfl rfl ?_
  refine jv_icmp_ge (tgt := 82) (jv_dk t_X12_years (k := 33) rfl) rfl (fun c10 => ?_) (fun c10 => ?_)
  · refine jv_le_row (jv_le_s (jv_le_n (jv_le_n (jv_le_s (jv_le_s (jv_le_n (jv_le_nil))))))) ?_
    exact hK60 _ _ _ _ 
  · show jv_O _ _ _ _ 66 _ _ _ _
    refine jv_aload_n (jv_dk t_X12_years (k := 34) rfl) rfl rfl (Or.inr ⟨_, rfl⟩) ?_
    refine jv_callV (en' := jeI) (pv := jpI) (As := []) (S := []) (jv_dk t_X12_years (k := 35) rfl) (fun _ => rfl) (Or.inl lk_X12_339) me_X12_live mv_X12_live ⟨by decide, by decide⟩ rfl rfl rfl (Nat.le_of_ble_eq_true rfl) (P_X12_live X x0 h) (fun v11 h12 => ?_)
    show jv_O X M_X12_years _ jeIX 70 [some (.ref (x0)), none, some (.int (x2)), some (.int (x3)), some (.int (x4)), some (.int (x5))] [.int (v11)] h12 _
    refine jv_if_eq (tgt := 76) (jv_dk t_X12_years (k := 36) rfl) rfl (fun c13 => ?_) (fun c13 => ?_)
    · refine jv_iinc (v := 1) (L' := [some (.ref (x0)), none, some (.int (x2)), some (.int (x3)), some (.int (x4)), some (.int (x5 + 1))]) (jv_dk t_X12_years (k := 38) rfl) rfl (by decide) rfl ?_
      refine jv_goto (tgt := 60) (jv_dk t_X12_years (k := 39) rfl) rfl ?_
      exact hR60 _ _ _ _ _ _ 
    · show jv_O _ _ _ _ 73 _ _ _ _
      refine jv_iinc (v := 1) (L' := [some (.ref (x0)), none, some (.int (x2)), some (.int (x3)), some (.int (x4 + 1)), some (.int (x5))]) (jv_dk t_X12_years (k := 37) rfl) rfl (by decide) rfl ?_
      refine jv_iinc (v := 1) (L' := [some (.ref (x0)), none, some (.int (x2)), some (.int (x3)), some (.int (x4 + 1)), some (.int (x5 + 1))]) (jv_dk t_X12_years (k := 38) rfl) rfl (by decide) rfl ?_
      refine jv_goto (tgt := 60) (jv_dk t_X12_years (k := 39) rfl) rfl ?_
      exact hR60 _ _ _ _ _ _ 
def f_X12_years (a0 : Nat) (a1 : Int32) (a2 : Int32) (a3 : Int32) (h : jh) : Option ((Int32 ⊕ String) × jh) :=
  (if a3 < 0 then
  some (.inr "java/util/NoSuchElementException", jt h)
  else
  (if a3 ≤ 2 then
  (if a2 < 0 then
  some (.inr "java/lang/IllegalArgumentException", jt h)
  else
  (if a2 ≤ 60 then
  gR h a0 10 2 fun v5 =>
  gR h a0 10 0 fun v6 =>
  gR h v6 6 0 fun v7 =>
  cV h v5 9 (f_X11_copy v5 v7 h) fun _ h8 =>
  pV h8 a0 10 7 (.int (a1)) fun h9 =>
  jlp5 (f_X12_years_h60 (fun y15 y16 y17 h14 =>
  (if y16 = 0 then
  gR h14 y15 10 2 fun v23 =>
  gR h14 v23 9 0 fun v24 =>
  gI h14 v24 3 7 fun v25 =>
  bd (f_J6_bitCount_0f7a4 v25 h14) fun v26 h27 =>
  some (.inl v26, h27)
  else
  (if y16 = 1 then
  some (.inl y17, h14)
  else
  gR h14 y15 10 2 fun v20 =>
  cV h14 v20 9 (f_X11_deepestNumberSpace v20 h14) fun v21 h22 =>
  some (.inl v21, h22))))) jfu a0 a2 a3 0 0 h9
  else
  some (.inr "java/lang/IllegalArgumentException", jt h)))
  else
  some (.inr "java/util/NoSuchElementException", jt h)))
theorem P_X12_years (X : jx) (a0 : Nat) (a1 : Int32) (a2 : Int32) (a3 : Int32) (h : jh) : jv_P X M_X12_years jeIX [.ref (a0), .int (a1), .int (a2), .int (a3)] h (f_X12_years a0 a1 a2 a3 h) := by
  refine jv_P.of (by decide) rfl (by simp [Value.category]) (Nat.le_of_ble_eq_true rfl) ?_
  show jv_O X M_X12_years (h.1, h.2.1) jeIX 0 [some (.ref (a0)), some (.int (a1)), some (.int (a2)), some (.int (a3)), none, none] [] h (f_X12_years a0 a1 a2 a3 h)
  unfold f_X12_years
  refine jv_iload_n (jv_dk t_X12_years (k := 0) rfl) rfl rfl ?_
  refine jv_if_lt (tgt := 9) (jv_dk t_X12_years (k := 1) rfl) rfl (fun c1 => ?_) (fun c1 => ?_)
  · exact jv_throw (jv_dk t_X12_years (k := 5) rfl) (jv_dk t_X12_years (k := 6) rfl) (jv_dk t_X12_years (k := 7) rfl) (jv_dk t_X12_years (k := 8) rfl) rfl rfl (by decide) tw_146_148 (Nat.le_of_ble_eq_true rfl) ⟨by decide, by decide⟩ rfl
  · show jv_O _ _ _ _ 4 _ _ _ _
    refine jv_iload_n (jv_dk t_X12_years (k := 2) rfl) rfl rfl ?_
    refine jv_iconst (v := 2) (jv_dk t_X12_years (k := 3) rfl) (by decide) ?_
    refine jv_icmp_le (tgt := 17) (jv_dk t_X12_years (k := 4) rfl) rfl (fun c2 => ?_) (fun c2 => ?_)
    · refine jv_iload_n (jv_dk t_X12_years (k := 9) rfl) rfl rfl ?_
      refine jv_if_lt (tgt := 27) (jv_dk t_X12_years (k := 10) rfl) rfl (fun c3 => ?_) (fun c3 => ?_)
      · exact jv_throw (jv_dk t_X12_years (k := 14) rfl) (jv_dk t_X12_years (k := 15) rfl) (jv_dk t_X12_years (k := 16) rfl) (jv_dk t_X12_years (k := 17) rfl) rfl rfl (by decide) tw_65_67 (Nat.le_of_ble_eq_true rfl) ⟨by decide, by decide⟩ rfl
      · show jv_O _ _ _ _ 21 _ _ _ _
        refine jv_iload_n (jv_dk t_X12_years (k := 11) rfl) rfl rfl ?_
        refine jv_bipush (v := 60) (jv_dk t_X12_years (k := 12) rfl) (by decide) ?_
        refine jv_icmp_le (tgt := 35) (jv_dk t_X12_years (k := 13) rfl) rfl (fun c4 => ?_) (fun c4 => ?_)
        · refine jv_aload_n (jv_dk t_X12_years (k := 18) rfl) rfl rfl (Or.inr ⟨_, rfl⟩) ?_
          refine jv_gR (jv_dk t_X12_years (k := 19) rfl) fl_X12_23 (fun v5 => ?_)
          refine jv_aload_n (jv_dk t_X12_years (k := 20) rfl) rfl rfl (Or.inr ⟨_, rfl⟩) ?_
          refine jv_gR (jv_dk t_X12_years (k := 21) rfl) fl_X12_10 (fun v6 => ?_)
          refine jv_gR (jv_dk t_X12_years (k := 22) rfl) fl_X12_82 (fun v7 => ?_)
          refine jv_callV (en' := jeV) (pv := jpV) (As := [.ref (v7)]) (S := []) (jv_dk t_X12_years (k := 23) rfl) (fun _ => rfl) lk_X12_68 me_X11_copy mv_X11_copy ⟨by decide, by decide⟩ rfl rfl rfl (Nat.le_of_ble_eq_true rfl) (P_X11_copy X v5 v7 h) (fun _ h8 => ?_)
          show jv_O X M_X12_years _ jeIX 49 [some (.ref (a0)), some (.int (a1)), some (.int (a2)), some (.int (a3)), none, none] [] h8 _
          refine jv_aload_n (jv_dk t_X12_years (k := 24) rfl) rfl rfl (Or.inr ⟨_, rfl⟩) ?_
          refine jv_iload_n (jv_dk t_X12_years (k := 25) rfl) rfl rfl ?_
          refine jv_pV (jv_dk t_X12_years (k := 26) rfl) fl_X12_48 kX12 (Or.inl rfl) rfl rfl rfl (fun h9 => ?_)
          refine jv_iconst (v := 0) (jv_dk t_X12_years (k := 27) rfl) (by decide) ?_
          refine jv_istore (L' := [some (.ref (a0)), some (.int (a1)), some (.int (a2)), some (.int (a3)), some (.int (0)), none]) (jv_dk t_X12_years (k := 28) rfl) (Nat.le_of_ble_eq_true rfl) rfl ?_
          refine jv_iconst (v := 0) (jv_dk t_X12_years (k := 29) rfl) (by decide) ?_
          refine jv_istore (L' := [some (.ref (a0)), some (.int (a1)), some (.int (a2)), some (.int (a3)), some (.int (0)), some (.int (0))]) (jv_dk t_X12_years (k := 30) rfl) (Nat.le_of_ble_eq_true rfl) rfl ?_
          refine jv_le_row (jv_le_s (jv_le_n (jv_le_s (jv_le_s (jv_le_s (jv_le_s (jv_le_nil))))))) ?_
          refine o_f_X12_years_h60 (fun y15 y16 y17 h14 => ?_) _ _ _ _ _ _ 
          show jv_O X M_X12_years _ jeIX 82 [some (.ref (y15)), none, none, some (.int (y16)), some (.int (y17)), none] [] h14 _
          refine jv_iload_n (jv_dk t_X12_years (k := 40) rfl) rfl rfl ?_
          by_cases c18 : y16 = 0
          · rw [if_pos c18]
            refine jv_lkp (tgt := 108) (jv_dk t_X12_years (k := 41) rfl) (by decide) (by rw [c18] <;> rfl) rfl ?_
            refine jv_aload_n (jv_dk t_X12_years (k := 42) rfl) rfl rfl (Or.inr ⟨_, rfl⟩) ?_
            refine jv_gR (jv_dk t_X12_years (k := 43) rfl) fl_X12_23 (fun v23 => ?_)
            refine jv_gR (jv_dk t_X12_years (k := 44) rfl) fl_X12_97 (fun v24 => ?_)
            refine jv_gI (jv_dk t_X12_years (k := 45) rfl) fl_X12_101 (fun v25 => ?_)
            refine jv_callS (en' := jeI) (pv := jpI) (As := [.int (v25)]) (S := []) (jv_dk t_X12_years (k := 46) rfl) (fun _ => rfl) (Or.inl lk_X12_106) me_J6_bitCount_0f7a4 ms_J6_bitCount_0f7a4 ⟨by decide, by decide⟩ rfl rfl (Nat.le_of_ble_eq_true rfl) (P_J6_bitCount_0f7a4 X v25 h14) (fun v26 h27 => ?_)
            show jv_O X M_X12_years _ jeIX 121 [some (.ref (y15)), none, none, some (.int (y16)), some (.int (y17)), none] [.int (v26)] h27 _
            exact jv_iret (ty := .int) (jv_dk t_X12_years (k := 47) rfl) rfl rfl rfl
          rw [if_neg c18]
          by_cases c19 : y16 = 1
          · rw [if_pos c19]
            refine jv_lkp (tgt := 122) (jv_dk t_X12_years (k := 41) rfl) (by decide) (by rw [c19] <;> rfl) rfl ?_
            refine jv_iload (jv_dk t_X12_years (k := 48) rfl) rfl ?_
            exact jv_iret (ty := .int) (jv_dk t_X12_years (k := 49) rfl) rfl rfl rfl
          rw [if_neg c19]
          have e_c18 := jv_ne (x := y16) (k := 0) (by decide) (by decide) c18
          have e_c19 := jv_ne (x := y16) (k := 1) (by decide) (by decide) c19
          refine jv_lkp (tgt := 125) (jv_dk t_X12_years (k := 41) rfl) (by decide) (jv_lk2 e_c18 e_c19) rfl ?_
          refine jv_aload_n (jv_dk t_X12_years (k := 50) rfl) rfl rfl (Or.inr ⟨_, rfl⟩) ?_
          refine jv_gR (jv_dk t_X12_years (k := 51) rfl) fl_X12_23 (fun v20 => ?_)
          refine jv_callV (en' := jeI) (pv := jpI) (As := []) (S := []) (jv_dk t_X12_years (k := 52) rfl) (fun _ => rfl) lk_X12_343 me_X11_deepestNumberSpace mv_X11_deepestNumberSpace ⟨by decide, by decide⟩ rfl rfl rfl (Nat.le_of_ble_eq_true rfl) (P_X11_deepestNumberSpace X v20 h14) (fun v21 h22 => ?_)
          show jv_O X M_X12_years _ jeIX 132 [some (.ref (y15)), none, none, some (.int (y16)), some (.int (y17)), none] [.int (v21)] h22 _
          exact jv_iret (ty := .int) (jv_dk t_X12_years (k := 53) rfl) rfl rfl rfl
        · show jv_O _ _ _ _ 27 _ _ _ _
          exact jv_throw (jv_dk t_X12_years (k := 14) rfl) (jv_dk t_X12_years (k := 15) rfl) (jv_dk t_X12_years (k := 16) rfl) (jv_dk t_X12_years (k := 17) rfl) rfl rfl (by decide) tw_65_67 (Nat.le_of_ble_eq_true rfl) ⟨by decide, by decide⟩ rfl
    · show jv_O _ _ _ _ 9 _ _ _ _
      exact jv_throw (jv_dk t_X12_years (k := 5) rfl) (jv_dk t_X12_years (k := 6) rfl) (jv_dk t_X12_years (k := 7) rfl) (jv_dk t_X12_years (k := 8) rfl) rfl rfl (by decide) tw_146_148 (Nat.le_of_ble_eq_true rfl) ⟨by decide, by decide⟩ rfl
def t0_X12_image : List (Nat × Instr × Nat) := [(0, .aload_n 0, 1), (1, .getfield 51, 3), (4, .ifnonnull 14, 3), (7, .aload_n 0, 1), (8, .new 7, 3), (11, .dup, 1), (12, .invokespecial 9, 3), (15, .putfield 51, 3), (18, .aload_n 0, 1), (19, .getfield 51, 3), (22, .aload_n 0, 1), (23, .getfield 10, 3), (26, .invokevirtual 374, 3), (29, .aload_n 0, 1), (30, .iconst 1, 1), (31, .putfield 54, 3), (34, .return_, 1)]
theorem t_X12_image : jv_dec cX12_image t0_X12_image = true := by decide +kernel
def M_X12_image : jm := (yX12_image, cX12_image, 1, none, 6, 148, [])
theorem lk_X12_374 : jv_lk RX12 374 M_X8_copy := Or.inr ⟨"SpaceWarden", (jv_at 922 (by decide +kernel))⟩
set_option maxRecDepth 20000 in
theorem me_X8_copy : jv_me M_X8_copy 1 := ⟨(jv_in4 (List.mem_of_getElem? (i := 45) rfl)), (jv_at 162 (by decide +kernel)), ⟨by decide, by decide⟩, by decide +kernel⟩
theorem mv_X8_copy : jv_mv M_X8_copy := ⟨(jv_at 924 (by decide +kernel)), (jv_at 65 (by decide +kernel))⟩
def f_X12_image_b18 (x0 : Nat) (h : jh) : Option (Unit × jh) :=
  gQ h x0 10 8 fun v7 =>
  gR h x0 10 0 fun v8 =>
  nn v7 fun r9 =>
  cV h r9 6 (f_X8_copy r9 v8 h) fun _ h10 =>
  pV h10 x0 10 9 (.int (1)) fun h11 =>
  some ((), h11)
theorem o_f_X12_image_b18 {X : jx} {b0 : Nat × Nat} (x0 : Nat) (h : jh) : jv_O X M_X12_image b0 jeV 18 [some (.ref (x0))] [] h (f_X12_image_b18 x0 h) := by
  unfold f_X12_image_b18
  refine jv_aload_n (jv_dk t_X12_image (k := 8) rfl) rfl rfl (Or.inr ⟨_, rfl⟩) ?_
  refine jv_gQ (jv_dk t_X12_image (k := 9) rfl) fl_X12_51 (fun v7 => ?_)
  refine jv_aload_n (jv_dk t_X12_image (k := 10) rfl) rfl rfl (Or.inr ⟨_, rfl⟩) ?_
  refine jv_gR (jv_dk t_X12_image (k := 11) rfl) fl_X12_10 (fun v8 => ?_)
  refine jv_nn (fun r9 e_r9 => ?_)
  subst e_r9
  show jv_O X M_X12_image _ jeV 26 [some (.ref (x0))] [.ref (v8), .ref (r9)] h _
  refine jv_callV (en' := jeV) (pv := jpV) (As := [.ref (v8)]) (S := []) (jv_dk t_X12_image (k := 12) rfl) (fun _ => rfl) lk_X12_374 me_X8_copy mv_X8_copy ⟨by decide, by decide⟩ rfl rfl rfl (Nat.le_of_ble_eq_true rfl) (P_X8_copy X r9 v8 h) (fun _ h10 => ?_)
  show jv_O X M_X12_image _ jeV 29 [some (.ref (x0))] [] h10 _
  refine jv_aload_n (jv_dk t_X12_image (k := 13) rfl) rfl rfl (Or.inr ⟨_, rfl⟩) ?_
  refine jv_iconst (v := 1) (jv_dk t_X12_image (k := 14) rfl) (by decide) ?_
  refine jv_pV (jv_dk t_X12_image (k := 15) rfl) fl_X12_54 kX12 (Or.inl rfl) rfl rfl rfl (fun h11 => ?_)
  exact jv_vret (jv_dk t_X12_image (k := 16) rfl) rfl rfl
def f_X12_image (a0 : Nat) (h : jh) : Option (Unit × jh) :=
  gQ h a0 10 8 fun v1 =>
  nq v1 (nO h 6 6 [.null, .null, .null, .null, .int 0, .int 0] fun q3 h4 =>
  bd (f_X8_init q3 h4) fun _ h5 =>
  pV h5 a0 10 8 (.ref (q3)) fun h6 =>
  f_X12_image_b18 a0 h6) fun r2 =>
  f_X12_image_b18 a0 h
theorem P_X12_image (X : jx) (a0 : Nat) (h : jh) : jv_P X M_X12_image jeV [.ref (a0)] h (f_X12_image a0 h) := by
  refine jv_P.of (by decide) rfl (by simp [Value.category]) (Nat.le_of_ble_eq_true rfl) ?_
  show jv_O X M_X12_image (h.1, h.2.1) jeV 0 [some (.ref (a0))] [] h (f_X12_image a0 h)
  unfold f_X12_image
  refine jv_aload_n (jv_dk t_X12_image (k := 0) rfl) rfl rfl (Or.inr ⟨_, rfl⟩) ?_
  refine jv_gQ (jv_dk t_X12_image (k := 1) rfl) fl_X12_51 (fun v1 => ?_)
  refine jv_nq (fun e_r2 => ?_) (fun r2 e_r2 => ?_)
  · subst e_r2
    show jv_O X M_X12_image _ jeV 4 [some (.ref (a0))] [.null] h _
    refine jv_ifnonnull_n (jv_dk t_X12_image (k := 2) rfl) ?_
    refine jv_aload_n (jv_dk t_X12_image (k := 3) rfl) rfl rfl (Or.inr ⟨_, rfl⟩) ?_
    refine jv_new (jv_dk t_X12_image (k := 4) rfl) kX8 ck_X12_7 ib_X8 iz_X8 df_X8 (fun q3 h4 => ?_)
    refine jv_dup (jv_dk t_X12_image (k := 5) rfl) rfl ?_
    refine jv_callI (en' := jeV) (pv := jpV) (As := []) (S := [.ref (q3), .ref (a0)]) (jv_dk t_X12_image (k := 6) rfl) (fun _ => rfl) lk_X12_9 me_X8_init mi_X8_init rfl rfl ⟨by decide, by decide⟩ rfl rfl (Nat.le_of_ble_eq_true rfl) (P_X8_init X q3 h4) (fun _ h5 => ?_)
    show jv_O X M_X12_image _ jeV 15 [some (.ref (a0))] [.ref (q3), .ref (a0)] h5 _
    refine jv_pV (jv_dk t_X12_image (k := 7) rfl) fl_X12_51 kX12 (Or.inl rfl) rfl rfl rfl (fun h6 => ?_)
    exact o_f_X12_image_b18 _ _ 
  · subst e_r2
    show jv_O X M_X12_image _ jeV 4 [some (.ref (a0))] [.ref (r2)] h _
    refine jv_ifnonnull_s (tgt := 18) (jv_dk t_X12_image (k := 2) rfl) rfl ?_
    exact o_f_X12_image_b18 _ _ 
