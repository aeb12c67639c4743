/-! the JDK: texts, ordinals, natives' words -/
def t0_J3_checkIndex_8e157 : List (Nat × Instr × Nat) := [(0, .iload_n 0, 1), (1, .ifCond .lt 8, 3), (4, .iload_n 0, 1), (5, .iload_n 1, 1), (6, .if_icmp .lt 10, 3), (9, .aload_n 2, 1), (10, .iload_n 0, 1), (11, .iload_n 1, 1), (12, .invokestatic 95, 3), (15, .athrow, 1), (16, .iload_n 0, 1), (17, .ireturn, 1)]
theorem t_J3_checkIndex_8e157 : jv_dec cJ3_checkIndex_8e157 t0_J3_checkIndex_8e157 = true := by decide +kernel
def M_J3_checkIndex_8e157 : jm := (yJ3_checkIndex_8e157, cJ3_checkIndex_8e157, 3, (some .int), 0, 0, [])
set_option maxRecDepth 20000 in
theorem me_J3_checkIndex_8e157 : jv_me M_J3_checkIndex_8e157 3 := ⟨(jv_in4 (List.mem_of_getElem? (i := 179) rfl)), (jv_at 183 (by decide +kernel)), ⟨by decide, by decide⟩, by decide +kernel⟩
def t0_J0_checkIndex_df160 : List (Nat × Instr × Nat) := [(0, .iload_n 0, 1), (1, .iload_n 1, 1), (2, .getstatic 1053, 3), (5, .invokestatic 1059, 3), (8, .pop, 1), (9, .return_, 1)]
theorem t_J0_checkIndex_df160 : jv_dec cJ0_checkIndex_df160 t0_J0_checkIndex_df160 = true := by decide +kernel
def M_J0_checkIndex_df160 : jm := (yJ0_checkIndex_df160, cJ0_checkIndex_df160, 2, none, 1, 40, [])
set_option maxRecDepth 20000 in
theorem me_J0_checkIndex_df160 : jv_me M_J0_checkIndex_df160 2 := ⟨(jv_in4 (List.mem_of_getElem? (i := 174) rfl)), (jv_at 181 (by decide +kernel)), ⟨by decide, by decide⟩, by decide +kernel⟩
def t0_J1_charAt_3b067 : List (Nat × Instr × Nat) := [(0, .iload_n 1, 1), (1, .aload_n 0, 1), (2, .arraylength, 1), (3, .invokestatic 9, 3), (6, .aload_n 0, 1), (7, .iload_n 1, 1), (8, .baload, 1), (9, .sipush 255, 3), (12, .iand, 1), (13, .i2c, 1), (14, .ireturn, 1)]
theorem t_J1_charAt_3b067 : jv_dec cJ1_charAt_3b067 t0_J1_charAt_3b067 = true := by decide +kernel
def M_J1_charAt_3b067 : jm := (yJ1_charAt_3b067, cJ1_charAt_3b067, 2, (some .char), 2, 80, [])
set_option maxRecDepth 20000 in
theorem me_J1_charAt_3b067 : jv_me M_J1_charAt_3b067 2 := ⟨(jv_in4 (List.mem_of_getElem? (i := 171) rfl)), (jv_at 182 (by decide +kernel)), ⟨by decide, by decide⟩, by decide +kernel⟩
def t0_J0_isLatin1_aae02 : List (Nat × Instr × Nat) := [(0, .getstatic 38, 3), (3, .ifCond .eq 14, 3), (6, .aload_n 0, 1), (7, .getfield 15, 3), (10, .ifCond .ne 7, 3), (13, .iconst 1, 1), (14, .goto 4, 3), (17, .iconst 0, 1), (18, .ireturn, 1)]
theorem t_J0_isLatin1_aae02 : jv_dec cJ0_isLatin1_aae02 t0_J0_isLatin1_aae02 = true := by decide +kernel
def M_J0_isLatin1_aae02 : jm := (yJ0_isLatin1_aae02, cJ0_isLatin1_aae02, 1, (some .boolean), 0, 0, [])
set_option maxRecDepth 20000 in
theorem me_J0_isLatin1_aae02 : jv_me M_J0_isLatin1_aae02 0 := ⟨(jv_in4 (List.mem_of_getElem? (i := 168) rfl)), (jv_at 181 (by decide +kernel)), ⟨by decide, by decide⟩, by decide +kernel⟩
def t0_J0_coder_7d493 : List (Nat × Instr × Nat) := [(0, .getstatic 38, 3), (3, .ifCond .eq 10, 3), (6, .aload_n 0, 1), (7, .getfield 15, 3), (10, .goto 4, 3), (13, .iconst 1, 1), (14, .ireturn, 1)]
theorem t_J0_coder_7d493 : jv_dec cJ0_coder_7d493 t0_J0_coder_7d493 = true := by decide +kernel
def M_J0_coder_7d493 : jm := (yJ0_coder_7d493, cJ0_coder_7d493, 1, (some .byte), 0, 0, [])
set_option maxRecDepth 20000 in
theorem me_J0_coder_7d493 : jv_me M_J0_coder_7d493 0 := ⟨(jv_in4 (List.mem_of_getElem? (i := 158) rfl)), (jv_at 181 (by decide +kernel)), ⟨by decide, by decide⟩, by decide +kernel⟩
def t0_J0_length_8abf5 : List (Nat × Instr × Nat) := [(0, .aload_n 0, 1), (1, .getfield 9, 3), (4, .arraylength, 1), (5, .aload_n 0, 1), (6, .invokevirtual 335, 3), (9, .ishr, 1), (10, .ireturn, 1)]
theorem t_J0_length_8abf5 : jv_dec cJ0_length_8abf5 t0_J0_length_8abf5 = true := by decide +kernel
def M_J0_length_8abf5 : jm := (yJ0_length_8abf5, cJ0_length_8abf5, 1, (some .int), 1, 40, [])
set_option maxRecDepth 20000 in
theorem me_J0_length_8abf5 : jv_me M_J0_length_8abf5 0 := ⟨(jv_in4 (List.mem_of_getElem? (i := 154) rfl)), (jv_at 181 (by decide +kernel)), ⟨by decide, by decide⟩, by decide +kernel⟩
def t0_J0_charAt_5068e : List (Nat × Instr × Nat) := [(0, .aload_n 0, 1), (1, .invokevirtual 492, 3), (4, .ifCond .eq 12, 3), (7, .aload_n 0, 1), (8, .getfield 9, 3), (11, .iload_n 1, 1), (12, .invokestatic 495, 3), (15, .ireturn, 1), (16, .aload_n 0, 1), (17, .getfield 9, 3), (20, .iload_n 1, 1), (21, .invokestatic 498, 3), (24, .ireturn, 1)]
theorem t_J0_charAt_5068e : jv_dec cJ0_charAt_5068e t0_J0_charAt_5068e = true := by decide +kernel
def M_J0_charAt_5068e : jm := (yJ0_charAt_5068e, cJ0_charAt_5068e, 2, (some .char), 4, 160, [])
set_option maxRecDepth 20000 in
theorem me_J0_charAt_5068e : jv_me M_J0_charAt_5068e 1 := ⟨(jv_in4 (List.mem_of_getElem? (i := 164) rfl)), (jv_at 181 (by decide +kernel)), ⟨by decide, by decide⟩, by decide +kernel⟩
def t0_Jx29ce0_ordinal_8abf5 : List (Nat × Instr × Nat) := [(0, .aload_n 0, 1), (1, .getfield 7, 3), (4, .ireturn, 1)]
theorem t_Jx29ce0_ordinal_8abf5 : jv_dec cJx29ce0_ordinal_8abf5 t0_Jx29ce0_ordinal_8abf5 = true := by decide +kernel
def M_Jx29ce0_ordinal_8abf5 : jm := (yJx29ce0_ordinal_8abf5, cJx29ce0_ordinal_8abf5, 1, (some .int), 0, 0, [])
set_option maxRecDepth 20000 in
theorem me_Jx29ce0_ordinal_8abf5 : jv_me M_Jx29ce0_ordinal_8abf5 0 := ⟨(jv_in2 (List.mem_of_getElem? (i := 201) rfl)), (jv_at 179 (by decide +kernel)), ⟨by decide, by decide⟩, by decide +kernel⟩
theorem mv_J0_isLatin1_aae02 : jv_mv M_J0_isLatin1_aae02 := ⟨(jv_at 1046 (by decide +kernel)), (jv_at 1047 (by decide +kernel))⟩
theorem mv_J0_coder_7d493 : jv_mv M_J0_coder_7d493 := ⟨(jv_at 1036 (by decide +kernel)), (jv_at 1037 (by decide +kernel))⟩
theorem mv_J0_length_8abf5 : jv_mv M_J0_length_8abf5 := ⟨(jv_at 1032 (by decide +kernel)), (jv_at 1033 (by decide +kernel))⟩
theorem mv_J0_charAt_5068e : jv_mv M_J0_charAt_5068e := ⟨(jv_at 1042 (by decide +kernel)), (jv_at 1043 (by decide +kernel))⟩
theorem ms_J3_checkIndex_8e157 : jv_ms M_J3_checkIndex_8e157 := (jv_at 1058 (by decide +kernel))
theorem ms_J0_checkIndex_df160 : jv_ms M_J0_checkIndex_df160 := (jv_at 1053 (by decide +kernel))
theorem ms_J1_charAt_3b067 : jv_ms M_J1_charAt_3b067 := (jv_at 1050 (by decide +kernel))
theorem lk_J0_335 : jv_lk RJ0 335 M_J0_coder_7d493 := Or.inl (jv_at 1035 (by decide +kernel))
theorem lk_J0_492 : jv_lk RJ0 492 M_J0_isLatin1_aae02 := Or.inl (jv_at 1045 (by decide +kernel))
theorem lk_J0_495 : jv_lk RJ0 495 M_J1_charAt_3b067 := Or.inl (jv_at 1049 (by decide +kernel))
theorem lk_J1_9 : jv_lk RJ1 9 M_J0_checkIndex_df160 := Or.inl (jv_at 1052 (by decide +kernel))
theorem lk_J0_1059 : jv_lk RJ0 1059 M_J3_checkIndex_8e157 := Or.inl (jv_at 1057 (by decide +kernel))
theorem sl_J0_38 : jv_fl RJ0 38 "java/lang/String" "COMPACT_STRINGS" "Z" := Or.inl (jv_at 1039 (by decide +kernel))
theorem sl_J0_9 : jv_fl RJ0 9 "java/lang/String" "value" "[B" := Or.inl (jv_at 1932 (by decide +kernel))
theorem sl_J0_15 : jv_fl RJ0 15 "java/lang/String" "coder" "B" := Or.inl (jv_at 1933 (by decide +kernel))
theorem sl_J0_1053 : jv_fl RJ0 1053 "jdk/internal/util/Preconditions" "SIOOBE_FORMATTER" "Ljava/util/function/BiFunction;" := Or.inl (jv_at 1055 (by decide +kernel))
theorem sl_Jx29ce0_7 : jv_fl RJx29ce0 7 "java/lang/Enum" "ordinal" "I" := Or.inl (jv_at 1935 (by decide +kernel))
theorem oi_2 : Cond.instanceMethod Lib.objectInit ∈ lw_tbl := jv_at 194 (by decide +kernel)
set_option maxRecDepth 20000 in
theorem oi_3 : Cond.code Lib.objectInit ⟨#[0xb1]⟩ 1 none ∈ lw_tbl := jv_in1 (List.mem_of_getElem? (i := 35) rfl)
theorem sy_2 : Cond.native arraycopyName ∈ lw_tbl := jv_at 560 (by decide +kernel)
theorem sy_3 : Cond.static arraycopyName ∈ lw_tbl := jv_at 559 (by decide +kernel)
theorem sy_4 : Cond.initialized "java/lang/System" ∈ lw_tbl := jv_at 178 (by decide +kernel)
def jv_xo : MethodName := ⟨RX1, "ordinal", "()I"⟩
def jv_ol : List Cond := [.methodLink RX11 85 jv_xo, .sameMethod jv_xo.cls "java/lang/Enum" jv_xo.name jv_xo.desc, .selects RX1 jv_xo M_Jx29ce0_ordinal_8abf5.1, .instanceMethod M_Jx29ce0_ordinal_8abf5.1, .initialized M_Jx29ce0_ordinal_8abf5.1.cls]
theorem jv_ow : GoodIn lw_tbl jv_ol := goodIn_r (big := lw_tbl) _ [596, 597, 599, 600, 179] (by decide +kernel) (by decide +kernel)
section JDK
variable {α : Type} {X : jx} {M : jm} {b0 : Nat × Nat} {en : α → jr} {pc : Nat} {L : List (Option Value)} {S S0 : List Value} {h : jh} {o : Option (α × jh)}
theorem jv_i2c {x : Int32} (hd : decode M.2.1 pc = .ok (.i2c, 1)) (k : jv_O X M b0 en (pc + 1) L (.int ((x.toUInt32 % 65536).toInt32) :: S) h o) : jv_O X M b0 en pc L (.int x :: S) h o :=
  jv_go (fun _ _ _ _ _ _ _ _ _ _ _ _ _ _ ls hC hL hn _ kk => lv_i2c hC.1 hC.2.1 hd rfl (kk ls hL hn)) k
/-- a virtual call on an object of the old heap -/
theorem jv_callVo {γ : Type} {en' : γ → jr} {pv : γ → Option Value} {M' : jm} {As : List Value} {b i n : Nat} {o1 : Option (γ × jh)} {K : γ → jh → Option (α × jh)} (hd : decode M.2.1 pc = .ok (.invokevirtual i, 3)) (hen : ∀ a, en' a = .inl (pv a)) (hl : jv_lk M.1.cls i M') (hm : jv_me M' n) (hv : jv_mv M') (hf : jv_fit M M') (hb : ∀ U : State, jv_K X U → va_O M'.1.cls b (jv_A X) U X.2.2.1) (hn : As.length = n) (hS : S0 = As.reverse ++ .ref b :: S) (hw : (S.map fun v => v.category).sum ≤ 8)
    (hP : jv_P X M' en' (.ref b :: As) h o1) (k : ∀ a h1, o1 = some (a, h1) → jv_O X M b0 en (pc + 3) L ((pv a).toList ++ S) h1 (K a h1)) : jv_O X M b0 en pc L S0 h (bd o1 K) := by
  subst hS
  refine jv_callG' hen hP (fun p e R s m args below meth c H locs cells slots ls mc ms Qc hC hL hn9 hH hM hf9 => ?_) k
  have hU := hC.2.2.2.2.2.1
  have hsz : ls.size = M.2.2.1 := hL.1.trans hn9
  have hp : PreV s H M'.1.cls b (jv_Pc X (.ref b :: As) h) As := ⟨jv_Pc.blind _ _ _, by
    obtain ⟨cell, y1, y2, y3, y4⟩ := (hb s hU.2.2.1).kept hH.old
    exact ⟨cell, y1, y2, y3⟩, fun U hU9 hW => ⟨rfl, hU.warm hW, by rw [hU9]; exact hH⟩⟩
  rcases hl with hl | ⟨host, hl⟩
  · exact va_runV (Ts := []) ⟨hC.1, hC.2.1, hC.2.2.2.1, hC.2.2.2.2.1, fun w hw => by cases hw⟩ hM ⟨jv_callB hC hm hl hf, hU.1.use hv.1 rfl args, hU.1.use hv.2 rfl args⟩ hp rfl hn hsz rfl (lv_room hw) hd hf9
  · exact va_runVN (Ts := []) ⟨hC.1, hC.2.1, hC.2.2.2.1, hC.2.2.2.2.1, fun w hw => by cases hw⟩ hM ⟨jv_callN hC hm hl hf, hU.1.use hv.1 rfl args, hU.1.use hv.2 rfl args⟩ hp rfl hn hsz rfl (lv_room hw) hd hf9
end JDK
theorem P_J3_checkIndex_8e157 (X : jx) (i n : Int32) (v : Value) (hv : v = .null ∨ ∃ a, v = .ref a) (hi : ¬ i < 0) (hn : i < n) (h : jh) : jv_P X M_J3_checkIndex_8e157 jeI [.int i, .int n, v] h (some (i, h)) := by
  refine jv_P.of (by decide) rfl (by rcases hv with rfl | ⟨a, rfl⟩ <;> simp [Value.category]) (Nat.le_of_ble_eq_true rfl) ?_
  show jv_O X M_J3_checkIndex_8e157 (h.1, h.2.1) jeI 0 [some (.int i), some (.int n), some v] [] h _
  refine jv_iload_n (jv_dk t_J3_checkIndex_8e157 (k := 0) rfl) rfl rfl ?_
  rw [← ite_self (c := i < 0) (a := (some (i, h) : Option (Int32 × jh)))]
  refine jv_if_lt (tgt := 9) (jv_dk t_J3_checkIndex_8e157 (k := 1) rfl) rfl (fun c => absurd c hi) (fun _ => ?_)
  show jv_O _ _ _ _ 4 _ _ _ _
  refine jv_iload_n (jv_dk t_J3_checkIndex_8e157 (k := 2) rfl) rfl rfl ?_
  refine jv_iload_n (jv_dk t_J3_checkIndex_8e157 (k := 3) rfl) rfl rfl ?_
  rw [← ite_self (c := i < n) (a := (some (i, h) : Option (Int32 × jh)))]
  refine jv_icmp_lt (tgt := 16) (jv_dk t_J3_checkIndex_8e157 (k := 4) rfl) rfl (fun _ => ?_) (fun c => absurd hn c)
  refine jv_iload_n (jv_dk t_J3_checkIndex_8e157 (k := 10) rfl) rfl rfl ?_
  exact jv_iret (ty := .int) (jv_dk t_J3_checkIndex_8e157 (k := 11) rfl) rfl rfl rfl
theorem P_J0_checkIndex_df160 (X : jx) (i n : Int32) (hi : ¬ i < 0) (hn : i < n) (h : jh) : jv_P X M_J0_checkIndex_df160 jeV [.int i, .int n] h (some ((), h)) := by
  refine jv_P.of (by decide) rfl (by simp [Value.category]) (Nat.le_of_ble_eq_true rfl) ?_
  show jv_O X M_J0_checkIndex_df160 (h.1, h.2.1) jeV 0 [some (.int i), some (.int n)] [] h _
  refine jv_iload_n (jv_dk t_J0_checkIndex_df160 (k := 0) rfl) rfl rfl ?_
  refine jv_iload_n (jv_dk t_J0_checkIndex_df160 (k := 1) rfl) rfl rfl ?_
  refine jv_gsq (jv_dk t_J0_checkIndex_df160 (k := 2) rfl) sl_J0_1053 (fun U hK => hK.2.2.2.2.2.2.2.2.2.2.1) (fun v hv => ?_)
  refine jv_callS (en' := jeI) (pv := jpI) (As := [.int i, .int n, v]) (S := []) (o1 := some (i, h)) (K := fun _ h => some ((), h)) (jv_dk t_J0_checkIndex_df160 (k := 3) rfl) (fun _ => rfl) lk_J0_1059 me_J3_checkIndex_8e157 ms_J3_checkIndex_8e157 ⟨by decide, by decide⟩ rfl rfl (Nat.le_of_ble_eq_true rfl) (P_J3_checkIndex_8e157 X i n v hv hi hn h) (fun r h1 => ?_)
  show jv_O X M_J0_checkIndex_df160 _ jeV 8 [some (.int i), some (.int n)] [.int r] h1 _
  refine jv_pop (jv_dk t_J0_checkIndex_df160 (k := 4) rfl) rfl ?_
  exact jv_vret (jv_dk t_J0_checkIndex_df160 (k := 5) rfl) rfl rfl
theorem jv_txc : ∀ t, t < 17 → ∀ k, k < (jv_tx.getD t []).length → (((((jv_tx.map fun l => l.map Int32.ofNat).getD t []).getD k 0) &&& 255).toUInt32 % 65536).toInt32 = Int32.ofNat ((jv_tx.getD t []).getD k 0) ∧ narrow .char (.int (Int32.ofNat ((jv_tx.getD t []).getD k 0))) = .int (Int32.ofNat ((jv_tx.getD t []).getD k 0)) := by decide +kernel
theorem jv_txl : ∀ t, t < 17 → (jv_tx.map List.length).getD t 0 = (jv_tx.getD t []).length ∧ (jv_tx.getD t []).length < 100 := by decide +kernel
theorem jv_txT {X : jx} {t : Nat} (ht : t < 17) : ∀ U : State, jv_K X U → va_T .byte (jv_ad X (40 + t)) (jv_tx.getD t []).length (fun j => .int (((jv_tx.map fun l => l.map Int32.ofNat).getD t []).getD j 0)) (jv_A X) U X.2.2.1 := fun U hK => by
  have := (hK.2.2.2.2.2.2.2.1.1 t ht).2.2.2
  rw [(jv_txl t ht).1] at this
  exact this
theorem P_J1_charAt_3b067 (X : jx) (t : Nat) (i : Int32) (ht : t < 17) (hi : ¬ (i < 0 ∨ (jv_tx.getD t []).length ≤ i.toNatClampNeg)) (h : jh) : jv_P X M_J1_charAt_3b067 jeI [.ref (jv_ad X (40 + t)), .int i] h (some (Int32.ofNat ((jv_tx.getD t []).getD i.toNatClampNeg 0), h)) := by
  obtain ⟨e1, e2⟩ := jv_txl t ht
  have hlt : i.toNatClampNeg < (jv_tx.getD t []).length := Nat.not_le.mp fun q => hi (Or.inr q)
  obtain ⟨c1, c2⟩ := jv_txc t ht _ hlt
  refine jv_P.of (by decide) rfl (by simp [Value.category]) (Nat.le_of_ble_eq_true rfl) ?_
  show jv_O X M_J1_charAt_3b067 (h.1, h.2.1) jeI 0 [some (.ref (jv_ad X (40 + t))), some (.int i)] [] h _
  refine jv_iload_n (jv_dk t_J1_charAt_3b067 (k := 0) rfl) rfl rfl ?_
  refine jv_aload_n (jv_dk t_J1_charAt_3b067 (k := 1) rfl) rfl rfl (Or.inr ⟨_, rfl⟩) ?_
  refine jv_olen (jv_dk t_J1_charAt_3b067 (k := 2) rfl) (jv_txT ht) ?_
  refine jv_callS (en' := jeV) (pv := jpV) (As := [.int i, .int (Int32.ofNat (jv_tx.getD t []).length)]) (S := []) (o1 := some ((), h)) (K := fun _ h => some (Int32.ofNat ((jv_tx.getD t []).getD i.toNatClampNeg 0), h)) (jv_dk t_J1_charAt_3b067 (k := 3) rfl) (fun _ => rfl) lk_J1_9 me_J0_checkIndex_df160 ms_J0_checkIndex_df160 ⟨by decide, by decide⟩ rfl rfl (Nat.le_of_ble_eq_true rfl) (P_J0_checkIndex_df160 X i _ (fun q => hi (Or.inl q)) (by
    have h0 : ¬ i < 0 := fun q => hi (Or.inl q)
    obtain ⟨j, hj, rfl⟩ := nI_of h0
    rw [nI_clamp hj] at hlt
    exact nI_lt hlt (by omega)) h) (fun r h1 => ?_)
  show jv_O X M_J1_charAt_3b067 _ jeI 6 [some (.ref (jv_ad X (40 + t))), some (.int i)] [] h1 _
  refine jv_aload_n (jv_dk t_J1_charAt_3b067 (k := 4) rfl) rfl rfl (Or.inr ⟨_, rfl⟩) ?_
  refine jv_iload_n (jv_dk t_J1_charAt_3b067 (k := 5) rfl) rfl rfl ?_
  refine jv_obald (jv_dk t_J1_charAt_3b067 (k := 6) rfl) (jv_txT ht) hi ?_
  refine jv_sipush (v := 255) (jv_dk t_J1_charAt_3b067 (k := 7) rfl) (by decide) ?_
  refine jv_iand (jv_dk t_J1_charAt_3b067 (k := 8) rfl) ?_
  refine jv_i2c (jv_dk t_J1_charAt_3b067 (k := 9) rfl) ?_
  rw [c1]
  exact jv_iret (ty := .char) (jv_dk t_J1_charAt_3b067 (k := 10) rfl) rfl c2 rfl
theorem P_J0_isLatin1_aae02 (X : jx) (t : Nat) (ht : t < 17) (h : jh) : jv_P X M_J0_isLatin1_aae02 jeI [.ref (jv_ad X (20 + t))] h (some (1, h)) := by
  refine jv_P.of (by decide) rfl (by simp [Value.category]) (Nat.le_of_ble_eq_true rfl) ?_
  show jv_O X M_J0_isLatin1_aae02 (h.1, h.2.1) jeI 0 [some (.ref (jv_ad X (20 + t)))] [] h _
  refine jv_gs (jv_dk t_J0_isLatin1_aae02 (k := 0) rfl) sl_J0_38 (fun U hK => hK.2.2.2.2.2.2.2.2.2.1) ?_
  rw [← ite_self (c := (1 : Int32) = 0) (a := (some (1, h) : Option (Int32 × jh)))]
  refine jv_if_eq (tgt := 17) (jv_dk t_J0_isLatin1_aae02 (k := 1) rfl) rfl (fun c => absurd c (by decide)) (fun _ => ?_)
  refine jv_aload_n (jv_dk t_J0_isLatin1_aae02 (k := 2) rfl) rfl rfl (Or.inr ⟨_, rfl⟩) ?_
  refine jv_ogf (jv_dk t_J0_isLatin1_aae02 (k := 3) rfl) sl_J0_15 (fun U hK => (hK.2.2.2.2.2.2.2.1.1 t ht).2.1) ?_
  rw [← ite_self (c := ¬ (0 : Int32) = 0) (a := (some (1, h) : Option (Int32 × jh)))]
  refine jv_if_ne (tgt := 17) (jv_dk t_J0_isLatin1_aae02 (k := 4) rfl) rfl (fun c => absurd rfl c) (fun _ => ?_)
  refine jv_iconst (v := 1) (jv_dk t_J0_isLatin1_aae02 (k := 5) rfl) (by decide) ?_
  refine jv_goto (tgt := 18) (jv_dk t_J0_isLatin1_aae02 (k := 6) rfl) rfl ?_
  exact jv_iret (ty := .boolean) (jv_dk t_J0_isLatin1_aae02 (k := 8) rfl) rfl rfl rfl
theorem P_J0_coder_7d493 (X : jx) (t : Nat) (ht : t < 17) (h : jh) : jv_P X M_J0_coder_7d493 jeI [.ref (jv_ad X (20 + t))] h (some (0, h)) := by
  refine jv_P.of (by decide) rfl (by simp [Value.category]) (Nat.le_of_ble_eq_true rfl) ?_
  show jv_O X M_J0_coder_7d493 (h.1, h.2.1) jeI 0 [some (.ref (jv_ad X (20 + t)))] [] h _
  refine jv_gs (jv_dk t_J0_coder_7d493 (k := 0) rfl) sl_J0_38 (fun U hK => hK.2.2.2.2.2.2.2.2.2.1) ?_
  rw [← ite_self (c := (1 : Int32) = 0) (a := (some (0, h) : Option (Int32 × jh)))]
  refine jv_if_eq (tgt := 13) (jv_dk t_J0_coder_7d493 (k := 1) rfl) rfl (fun c => absurd c (by decide)) (fun _ => ?_)
  refine jv_aload_n (jv_dk t_J0_coder_7d493 (k := 2) rfl) rfl rfl (Or.inr ⟨_, rfl⟩) ?_
  refine jv_ogf (jv_dk t_J0_coder_7d493 (k := 3) rfl) sl_J0_15 (fun U hK => (hK.2.2.2.2.2.2.2.1.1 t ht).2.1) ?_
  refine jv_goto (tgt := 14) (jv_dk t_J0_coder_7d493 (k := 4) rfl) rfl ?_
  exact jv_iret (ty := .byte) (jv_dk t_J0_coder_7d493 (k := 6) rfl) rfl rfl rfl
theorem P_J0_length_8abf5 (X : jx) (t : Nat) (ht : t < 17) (h : jh) : jv_P X M_J0_length_8abf5 jeI [.ref (jv_ad X (20 + t))] h (some (Int32.ofNat (jv_tx.getD t []).length, h)) := by
  refine jv_P.of (by decide) rfl (by simp [Value.category]) (Nat.le_of_ble_eq_true rfl) ?_
  show jv_O X M_J0_length_8abf5 (h.1, h.2.1) jeI 0 [some (.ref (jv_ad X (20 + t)))] [] h _
  refine jv_aload_n (jv_dk t_J0_length_8abf5 (k := 0) rfl) rfl rfl (Or.inr ⟨_, rfl⟩) ?_
  refine jv_ogf (jv_dk t_J0_length_8abf5 (k := 1) rfl) sl_J0_9 (fun U hK => (hK.2.2.2.2.2.2.2.1.1 t ht).2.2.1) ?_
  refine jv_olen (jv_dk t_J0_length_8abf5 (k := 2) rfl) (jv_txT ht) ?_
  refine jv_aload_n (jv_dk t_J0_length_8abf5 (k := 3) rfl) rfl rfl (Or.inr ⟨_, rfl⟩) ?_
  have hb : (some (Int32.ofNat (jv_tx.getD t []).length, h) : Option (Int32 × jh)) = bd (some ((0 : Int32), h)) (fun r h => some (Int32.ofNat (jv_tx.getD t []).length >>> (r &&& 31), h)) := by
    show _ = some (Int32.ofNat (jv_tx.getD t []).length >>> ((0 : Int32) &&& 31), h)
    rw [sb_shr0]
  rw [hb]
  refine jv_callVo (en' := jeI) (pv := jpI) (As := []) (S := [.int (Int32.ofNat (jv_tx.getD t []).length)]) (jv_dk t_J0_length_8abf5 (k := 4) rfl) (fun _ => rfl) lk_J0_335 me_J0_coder_7d493 mv_J0_coder_7d493 ⟨by decide, by decide⟩ (fun U hK => (hK.2.2.2.2.2.2.2.1.1 t ht).1) rfl rfl (Nat.le_of_ble_eq_true rfl) (P_J0_coder_7d493 X t ht h) (fun r h1 _ => ?_)
  show jv_O X M_J0_length_8abf5 _ jeI 9 [some (.ref (jv_ad X (20 + t)))] [.int r, .int (Int32.ofNat (jv_tx.getD t []).length)] h1 _
  refine jv_ishr (jv_dk t_J0_length_8abf5 (k := 5) rfl) ?_
  exact jv_iret (ty := .int) (jv_dk t_J0_length_8abf5 (k := 6) rfl) rfl rfl rfl
theorem P_J0_charAt_5068e (X : jx) (t : Nat) (i : Int32) (ht : t < 17) (hi : ¬ (i < 0 ∨ (jv_tx.getD t []).length ≤ i.toNatClampNeg)) (h : jh) : jv_P X M_J0_charAt_5068e jeI [.ref (jv_ad X (20 + t)), .int i] h (some (Int32.ofNat ((jv_tx.getD t []).getD i.toNatClampNeg 0), h)) := by
  have hlt : i.toNatClampNeg < (jv_tx.getD t []).length := Nat.not_le.mp fun q => hi (Or.inr q)
  obtain ⟨c1, c2⟩ := jv_txc t ht _ hlt
  refine jv_P.of (by decide) rfl (by simp [Value.category]) (Nat.le_of_ble_eq_true rfl) ?_
  show jv_O X M_J0_charAt_5068e (h.1, h.2.1) jeI 0 [some (.ref (jv_ad X (20 + t))), some (.int i)] [] h _
  refine jv_aload_n (jv_dk t_J0_charAt_5068e (k := 0) rfl) rfl rfl (Or.inr ⟨_, rfl⟩) ?_
  have hb : (some (Int32.ofNat ((jv_tx.getD t []).getD i.toNatClampNeg 0), h) : Option (Int32 × jh)) = bd (some ((1 : Int32), h)) (fun r h => if r = 0 then none else some (Int32.ofNat ((jv_tx.getD t []).getD i.toNatClampNeg 0), h)) := by
    simp only [bd]
    rw [if_neg (by decide)]
  rw [hb]
  refine jv_callVo (en' := jeI) (pv := jpI) (As := []) (S := []) (jv_dk t_J0_charAt_5068e (k := 1) rfl) (fun _ => rfl) lk_J0_492 me_J0_isLatin1_aae02 mv_J0_isLatin1_aae02 ⟨by decide, by decide⟩ (fun U hK => (hK.2.2.2.2.2.2.2.1.1 t ht).1) rfl rfl (Nat.le_of_ble_eq_true rfl) (P_J0_isLatin1_aae02 X t ht h) (fun r h1 _ => ?_)
  show jv_O X M_J0_charAt_5068e _ jeI 4 [some (.ref (jv_ad X (20 + t))), some (.int i)] [.int r] h1 _
  refine jv_if_eq (tgt := 16) (jv_dk t_J0_charAt_5068e (k := 2) rfl) rfl (fun c => jv_none rfl) (fun _ => ?_)
  refine jv_aload_n (jv_dk t_J0_charAt_5068e (k := 3) rfl) rfl rfl (Or.inr ⟨_, rfl⟩) ?_
  refine jv_ogf (jv_dk t_J0_charAt_5068e (k := 4) rfl) sl_J0_9 (fun U hK => (hK.2.2.2.2.2.2.2.1.1 t ht).2.2.1) ?_
  refine jv_iload_n (jv_dk t_J0_charAt_5068e (k := 5) rfl) rfl rfl ?_
  have hb2 : (some (Int32.ofNat ((jv_tx.getD t []).getD i.toNatClampNeg 0), h1) : Option (Int32 × jh)) = bd (some (Int32.ofNat ((jv_tx.getD t []).getD i.toNatClampNeg 0), h1)) (fun r h => if r = Int32.ofNat ((jv_tx.getD t []).getD i.toNatClampNeg 0) then some (r, h) else none) := by
    show _ = (if _ then _ else _)
    rw [if_pos rfl]
  rw [hb2]
  refine jv_callS (en' := jeI) (pv := jpI) (As := [.ref (jv_ad X (40 + t)), .int i]) (S := []) (jv_dk t_J0_charAt_5068e (k := 6) rfl) (fun _ => rfl) lk_J0_495 me_J1_charAt_3b067 ms_J1_charAt_3b067 ⟨by decide, by decide⟩ rfl rfl (Nat.le_of_ble_eq_true rfl) (P_J1_charAt_3b067 X t i ht hi h1) (fun r h2 => ?_)
  show jv_O X M_J0_charAt_5068e _ jeI 15 [some (.ref (jv_ad X (20 + t))), some (.int i)] [.int r] h2 _
  by_cases hr : r = Int32.ofNat ((jv_tx.getD t []).getD i.toNatClampNeg 0)
  · rw [if_pos hr]
    exact jv_iret (ty := .char) (jv_dk t_J0_charAt_5068e (k := 7) rfl) rfl (by rw [hr]; exact c2) rfl
  · rw [if_neg hr]
    exact jv_none rfl
theorem P_Jx29ce0_ordinal_8abf5 (X : jx) (e : Nat) (he : e < 11) (h : jh) : jv_P X M_Jx29ce0_ordinal_8abf5 jeI [.ref (jv_ad X e)] h (some (Int32.ofNat e, h)) := by
  refine jv_P.of (by decide) rfl (by simp [Value.category]) (Nat.le_of_ble_eq_true rfl) ?_
  show jv_O X M_Jx29ce0_ordinal_8abf5 (h.1, h.2.1) jeI 0 [some (.ref (jv_ad X e))] [] h _
  refine jv_aload_n (jv_dk t_Jx29ce0_ordinal_8abf5 (k := 0) rfl) rfl rfl (Or.inr ⟨_, rfl⟩) ?_
  refine jv_ogf (jv_dk t_Jx29ce0_ordinal_8abf5 (k := 1) rfl) sl_Jx29ce0_7 (fun U hK => (hK.2.2.2.1 e he).2.2.1) ?_
  exact jv_iret (ty := .int) (jv_dk t_Jx29ce0_ordinal_8abf5 (k := 2) rfl) rfl rfl rfl
section JDK2
variable {α : Type} {X : jx} {M : jm} {b0 : Nat × Nat} {en : α → jr} {pc : Nat} {L : List (Option Value)} {S S0 : List Value} {h : jh} {o : Option (α × jh)}
theorem jv_tL {t i : Nat} {K : Int32 → Option (α × jh)} (hd : decode M.2.1 pc = .ok (.invokevirtual i, 3)) (hl : jv_lk M.1.cls i M_J0_length_8abf5) (hf : jv_fit M M_J0_length_8abf5) (hw : (S.map fun v => v.category).sum ≤ 8) (k : ∀ v, jv_O X M b0 en (pc + 3) L (.int v :: S) h (K v)) : jv_O X M b0 en pc L (.ref (jv_ad X (20 + t)) :: S) h (tL t K) := by
  unfold tL
  split
  · next ht =>
    refine jv_callVo (en' := jeI) (pv := jpI) (As := []) (S := S) (o1 := some (Int32.ofNat (jv_tx.getD t []).length, h)) (K := fun _ _ => K (Int32.ofNat (jv_tx.getD t []).length)) hd (fun _ => rfl) hl me_J0_length_8abf5 mv_J0_length_8abf5 hf (fun U hK => (hK.2.2.2.2.2.2.2.1.1 t ht).1) rfl rfl hw (P_J0_length_8abf5 X t ht h) (fun r h1 e => ?_)
    cases e
    exact k _
  · exact jv_none rfl
theorem jv_tC {t n : Nat} {i : Int32} {K : Int32 → Option (α × jh)} (hd : decode M.2.1 pc = .ok (.invokevirtual n, 3)) (hl : jv_lk M.1.cls n M_J0_charAt_5068e) (hf : jv_fit M M_J0_charAt_5068e) (hw : (S.map fun v => v.category).sum ≤ 8) (k : ∀ v, jv_O X M b0 en (pc + 3) L (.int v :: S) h (K v)) : jv_O X M b0 en pc L (.int i :: .ref (jv_ad X (20 + t)) :: S) h (tC t i K) := by
  unfold tC
  split
  · next ht =>
    refine jv_callVo (en' := jeI) (pv := jpI) (As := [.int i]) (S := S) (o1 := some (Int32.ofNat ((jv_tx.getD t []).getD i.toNatClampNeg 0), h)) (K := fun _ _ => K (Int32.ofNat ((jv_tx.getD t []).getD i.toNatClampNeg 0))) hd (fun _ => rfl) hl me_J0_charAt_5068e mv_J0_charAt_5068e hf (fun U hK => (hK.2.2.2.2.2.2.2.1.1 t ht.1).1) rfl rfl hw (P_J0_charAt_5068e X t i ht.1 ht.2 h) (fun r h1 e => ?_)
    cases e
    exact k _
  · exact jv_none rfl
theorem jv_eO {e : Nat} {K : Int32 → Option (α × jh)} (hd : decode M.2.1 pc = .ok (.invokevirtual 85, 3)) (hM : M.1.cls = RX11) (hf : jv_fit M M_Jx29ce0_ordinal_8abf5) (hw : (S.map fun v => v.category).sum ≤ 8) (k : ∀ v, jv_O X M b0 en (pc + 3) L (.int v :: S) h (K v)) : jv_O X M b0 en pc L (.ref (jv_ad X e) :: S) h (eO e K) := by
  unfold eO
  split
  · next he =>
    refine jv_callG' (en' := jeI) (pv := jpI) (S := S) (M' := M_Jx29ce0_ordinal_8abf5) (av := [.ref (jv_ad X e)]) (o1 := some (Int32.ofNat e, h)) (K := fun _ _ => K (Int32.ofNat e)) (fun _ => rfl) (P_Jx29ce0_ordinal_8abf5 X e he h) (fun p e9 R s m args below meth c H locs cells slots ls mc ms Qc hC hL hn9 hH hMt hf9 => ?_) (fun r h1 e => ?_)
    · have hU := hC.2.2.2.2.2.1
      have hsz : ls.size = M.2.2.1 := hL.1.trans hn9
      have hp : PreV s H RX1 (jv_ad X e) (jv_Pc X [.ref (jv_ad X e)] h) [] := ⟨jv_Pc.blind _ _ _, by
        obtain ⟨cell, y1, y2, y3, y4⟩ := ((hU.2.2.1.2.2.2.1 e he).2.1).kept hH.old
        exact ⟨cell, y1, y2, y3⟩, fun U hU9 hW => ⟨rfl, hU.warm hW, by rw [hU9]; exact hH⟩⟩
      have hown : s.vm.findClass RX11 = some m.cls := by rw [← hM]; exact hC.2.2.2.2.1
      have hts : ∀ w ∈ jv_ol ++ [jv_cw M_Jx29ce0_ordinal_8abf5], w.before args s = true := fun w hw9 => by
        rcases List.mem_append.mp hw9 with h9 | h9
        · exact hU.1.use (jv_ow w h9).1 (by rw [Bool.or_eq_true]; left; exact List.all_eq_true.mp (by decide +kernel : jv_ol.all goodWord = true) w h9) args
        · rw [List.mem_singleton.mp h9]; exact hU.1.use me_Jx29ce0_ordinal_8abf5.1 rfl args
      have cw : va_CU R s args RX11 RX1 "java/lang/Enum" 85 jv_xo M_Jx29ce0_ordinal_8abf5.1 M_Jx29ce0_ordinal_8abf5.2.1 M_Jx29ce0_ordinal_8abf5.2.2.1 M_Jx29ce0_ordinal_8abf5.2.2.2.1 [jv_cw M_Jx29ce0_ordinal_8abf5] (jv_rm M_Jx29ce0_ordinal_8abf5 mc ms) mc ms 0 := by
        refine va_cwU (Ts := jv_ol ++ [jv_cw M_Jx29ce0_ordinal_8abf5]) 0 hts (fun w hw9 => ⟨?_, ?_⟩) rfl rfl rfl rfl ⟨by decide, by decide, by decide +kernel⟩ ⟨Nat.le_trans hf.1 hC.2.2.2.2.2.2.2.2.2.1, Nat.le_trans hf.2 hC.2.2.2.2.2.2.2.2.2.2⟩
        · exact hw9
        · rcases List.mem_append.mp hw9 with h9 | h9
          · exact good_of_word (List.all_eq_true.mp (by decide +kernel : jv_ol.all goodWord = true) w h9)
          · rw [List.mem_singleton.mp h9]; exact Or.inl rfl
      exact va_runU (Ts := []) ⟨hC.1, hC.2.1, hC.2.2.2.1, hown, fun w hw => by cases hw⟩ hMt cw hp rfl rfl hsz rfl (lv_room hw) hd hf9
    · cases e
      exact k _
  · exact jv_none rfl
end JDK2
theorem jv_lk2 {d o0 o1 x : Int} (h0 : x ≠ 0) (h1 : x ≠ 1) : Op.lookupswitch.offset (#[((0 : Int), o0), ((1 : Int), o1)] : Array (Int × Int)).toList d x = d := by
  simp [Op.lookupswitch.offset, Ne.symm h0, Ne.symm h1, h0, h1]
