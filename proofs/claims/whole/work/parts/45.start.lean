/-! from the start that the Statement gives to the layer: the context, and the claim out of a pure fact -/
theorem jv_Tof {s : State} {b : Nat} (hts : ∀ w ∈ lw_tbl, w.before #[Value.ref b] s = true) : jv_T s := by
  intro w hw hg
  have h1 := hts w hw
  rw [Bool.or_eq_true] at hg
  rcases hg with hg | hg
  · exact word_at (State.WarmedH.refl s) (good_of_word hg) h1
  · cases w <;> first | exact va_Nw.of rfl h1 | cases hg
theorem jv_Kof {s : State} {b : Nat} (hts : ∀ w ∈ lw_tbl, w.before #[Value.ref b] s = true) : ∃ (D : va_G) (ct : Nat → ClassId), va_K D vwCl [(ct 0, .int), (ct 1, .long), (ct 2, .object RX11), (ct 3, .object "java/lang/String")] s ∧ va_AO RX11 s ∧ va_AO "java/lang/String" s := by
  obtain ⟨c0, i0, k0⟩ := u_known (C := RX2) (T := TX2) (N := 4) (n := 4) hts inX2 (hts (.instantiable RX2 4) (jv_at 339 (by decide +kernel)))
  obtain ⟨c1, i1, k1⟩ := u_known (C := RX3) (T := TX3) (N := 4) (n := 4) hts inX3 (hts (.instantiable RX3 4) (jv_at 390 (by decide +kernel)))
  obtain ⟨c2, i2, k2⟩ := u_known (C := RX4) (T := TX4) (N := 4) (n := 4) hts inX4 (hts (.instantiable RX4 4) (jv_at 264 (by decide +kernel)))
  obtain ⟨c3, i3, k3⟩ := u_known (C := RX5) (T := TX5) (N := 9) (n := 9) hts inX5 (hts (.instantiable RX5 9) (jv_at 209 (by decide +kernel)))
  obtain ⟨c4, i4, k4⟩ := u_known (C := RX6) (T := TX6) (N := 7) (n := 7) hts inX6 (hts (.instantiable RX6 7) (jv_at 454 (by decide +kernel)))
  obtain ⟨c5, i5, k5⟩ := u_known (C := RX7) (T := TX7) (N := 4) (n := 4) hts inX7 (hts (.instantiable RX7 4) (jv_at 435 (by decide +kernel)))
  obtain ⟨c6, i6, k6⟩ := u_known (C := RX8) (T := TX8) (N := 6) (n := 6) hts inX8 (hts (.instantiable RX8 6) (jv_at 197 (by decide +kernel)))
  obtain ⟨c7, i7, k7⟩ := u_known (C := RX9) (T := TX9) (N := 2) (n := 2) hts inX9 (hts (.instantiable RX9 2) (jv_at 270 (by decide +kernel)))
  obtain ⟨c8, i8, k8⟩ := u_known (C := RX10) (T := TX10) (N := 6) (n := 6) hts inX10 (hts (.instantiable RX10 6) (jv_at 304 (by decide +kernel)))
  obtain ⟨c9, i9, k9⟩ := u_known (C := RX11) (T := TX11) (N := 4) (n := 4) hts inX11 (hts (.instantiable RX11 4) (jv_at 203 (by decide +kernel)))
  obtain ⟨c10, i10, k10⟩ := u_known (C := RX12) (T := TX12) (N := 10) (n := 10) hts inX12 (hts (.instantiable RX12 10) (jv_at 189 (by decide +kernel)))
  obtain ⟨c11, i11, k11⟩ := u_known (C := RX13) (T := TX13) (N := 36) (n := 36) hts inX13 (hts (.instantiable RX13 36) (jv_at 1347 (by decide +kernel)))
  obtain ⟨a0, kA0, cm0, x1, x2, x3⟩ := Cond.arrayClass_spec (hts (.arrayClass .int) (jv_at 262 (by decide +kernel)))
  obtain ⟨a1, kA1, cm1, y1, y2, y3⟩ := Cond.arrayClass_spec (hts (.arrayClass .long) (jv_at 1912 (by decide +kernel)))
  have hW : va_AO RX11 s := va_AO.of (hts (.arrayOver (.object RX11)) (jv_at 388 (by decide +kernel)))
  have hS : va_AO "java/lang/String" s := va_AO.of (hts (.arrayOver (.object "java/lang/String")) (jv_at 1353 (by decide +kernel)))
  obtain ⟨cm2, a2, kA2, z1, z2, z3, z4, z5⟩ := Cond.arrayOver_spec (va_AO.use (A := #[]) hW)
  obtain ⟨cm3, a3, kA3, w1, w2, w3, w4, w5⟩ := Cond.arrayOver_spec (va_AO.use (A := #[]) hS)
  refine ⟨(fun k => match k with | 0 => c0 | 1 => c1 | 2 => c2 | 3 => c3 | 4 => c4 | 5 => c5 | 6 => c6 | 7 => c7 | 8 => c8 | 9 => c9 | 10 => c10 | _ => c11, fun k => match k with | 0 => i0 | 1 => i1 | 2 => i2 | 3 => i3 | 4 => i4 | 5 => i5 | 6 => i6 | 7 => i7 | 8 => i8 | 9 => i9 | 10 => i10 | _ => i11), fun k => match k with | 0 => a0 | 1 => a1 | 2 => a2 | _ => a3, ⟨fun k q hq => ?_, fun k q hq => ?_⟩, hW, hS⟩
  · match k, hq with
    | 0, hq => cases hq; exact k0
    | 1, hq => cases hq; exact k1
    | 2, hq => cases hq; exact k2
    | 3, hq => cases hq; exact k3
    | 4, hq => cases hq; exact k4
    | 5, hq => cases hq; exact k5
    | 6, hq => cases hq; exact k6
    | 7, hq => cases hq; exact k7
    | 8, hq => cases hq; exact k8
    | 9, hq => cases hq; exact k9
    | 10, hq => cases hq; exact k10
    | 11, hq => cases hq; exact k11
    | k + 12, hq => simp [vwCl] at hq
  · match k, hq with
    | 0, hq => cases hq; exact ⟨fun n z => ⟨fun k h => (by cases h), kA0, x2, cm0, x3⟩, x1⟩
    | 1, hq => cases hq; exact ⟨fun n z => ⟨fun k h => (by cases h), kA1, y2, cm1, y3⟩, y1⟩
    | 2, hq => cases hq; exact ⟨fun n z => ⟨fun k h => (by cases h), kA2, z3, cm2, z4⟩, kA2, cm2, z3, z4, z1, z5⟩
    | 3, hq => cases hq; exact ⟨fun n z => ⟨fun k h => (by cases h), kA3, w3, cm3, w4⟩, kA3, cm3, w3, w4, w1, w5⟩
    | k + 4, hq => simp at hq
/-- what the Statement gives, as a list -/
abbrev jv_nl : List Cond := flatC (Jvm.Cond.and given_1 narrow_1)
def jv_sx : List Nat := [64, 72, 75, 78, 81, 86, 91, 96, 101, 104, 109, 66, 83, 88, 93, 98, 106]
abbrev jv_tm (i : Nat) : Term := .string "SpaceWarden$Act" (jv_sx.getD i 0)
abbrev jv_ac (i : Nat) : Term := .static RX1 (jv_nm.getD i "") "LSpaceWarden$Act;"
theorem jn_ex : ∀ i, i < 17 → Cond.exactly (jv_tm i) "java/lang/String" ∈ jv_nl := by decide +kernel
theorem jn_co : ∀ i, i < 17 → Cond.eq (.field (jv_tm i) "java/lang/String" "coder" "B") (.int 0) ∈ jv_nl := by decide +kernel
theorem jn_ar : ∀ i, i < 17 → Cond.arrayOf (.field (jv_tm i) "java/lang/String" "value" "[B") .byte ∈ jv_nl := by decide +kernel
theorem jn_le : ∀ i, i < 17 → Cond.eq (.length (.field (jv_tm i) "java/lang/String" "value" "[B")) (.int (Int32.ofNat ((jv_tx.map List.length).getD i 0))) ∈ jv_nl := by decide +kernel
theorem jn_el : ∀ i, i < 17 → ∀ j, j < (jv_tx.map List.length).getD i 0 → Cond.eq (.elem (.field (jv_tm i) "java/lang/String" "value" "[B") (.int (Int32.ofNat j))) (.int (((jv_tx.map fun l => l.map Int32.ofNat).getD i []).getD j 0)) ∈ jv_nl := by decide +kernel
theorem jn_ln : ∀ i, i < 17 → (jv_tx.map List.length).getD i 0 < 2 ^ 31 := by decide +kernel
theorem jn_ax : ∀ i, i < 11 → Cond.exactly (jv_ac i) RX1 ∈ jv_nl := by decide +kernel
theorem jn_ao : ∀ i, i < 11 → Cond.eq (.field (jv_ac i) "java/lang/Enum" "ordinal" "I") (.int (Int32.ofNat i)) ∈ jv_nl := by decide +kernel
theorem jn_aw : ∀ i, i < 11 → Cond.eq (.field (jv_ac i) RX1 "word" "Ljava/lang/String;") (jv_tm i) ∈ jv_nl := by decide +kernel
theorem jn_as : ∀ i, i < 11 → Cond.eq (.field (jv_ac i) RX1 "shape" "Ljava/lang/String;") (jv_tm (jv_sh.getD i 0)) ∈ jv_nl := by decide +kernel
theorem jn_sh : ∀ i, i < 11 → jv_sh.getD i 0 < 17 := by decide +kernel
theorem jn_ad : ∀ i, i < 11 → ∀ j, j < 11 → i ≠ j → Cond.not (.eq (jv_ac i) (jv_ac j)) ∈ jv_nl ∨ Cond.not (.eq (jv_ac j) (jv_ac i)) ∈ jv_nl := by decide +kernel
theorem jn_al : ∀ i, i < 11 → Cond.laysStatic RX1 (jv_nm.getD i "") "LSpaceWarden$Act;" ∈ lw_tbl := by decide +kernel
theorem jn_mw : ∀ i, i < 11 → Cond.eq (.string RX13 (9 + 2 * i)) (jv_tm i) ∈ jv_nl := by decide +kernel
theorem jn_ms : ∀ i, i < 11 → Cond.stringRef RX13 (9 + 2 * i) (jv_wd.getD i "") ∈ lw_tbl := by decide +kernel
abbrev jv_sm : Term := .static RX0 "$SwitchMap$SpaceWarden$Act" "[I"
abbrev jv_at9 : Term := .static RX1 "ALL" "[LSpaceWarden$Act;"
theorem jn_m1 : Cond.arrayOf jv_sm .int ∈ jv_nl := by decide +kernel
theorem jn_m2 : Cond.eq (.length jv_sm) (.int (Int32.ofNat 11)) ∈ jv_nl := by decide +kernel
theorem jn_m3 : ∀ j, j < 11 → Cond.eq (.elem jv_sm (.int (Int32.ofNat j))) (.int (Int32.ofNat (j + 1))) ∈ jv_nl := by decide +kernel
theorem jn_l1 : Cond.arrayOf jv_at9 (.object RX1) ∈ jv_nl := by decide +kernel
theorem jn_l2 : Cond.eq (.length jv_at9) (.int (Int32.ofNat 11)) ∈ jv_nl := by decide +kernel
theorem jn_l3 : ∀ j, j < 11 → Cond.eq (.elem jv_at9 (.int (Int32.ofNat j))) (jv_ac j) ∈ jv_nl := by decide +kernel
theorem jn_cs : Cond.eq (.static "java/lang/String" "COMPACT_STRINGS" "Z") (.int 1) ∈ jv_nl := by decide +kernel
theorem jn_si : Cond.isRef (.static "jdk/internal/util/Preconditions" "SIOOBE_FORMATTER" "Ljava/util/function/BiFunction;") ∈ jv_nl := by decide +kernel
theorem jn_us : Cond.isRef (.static Bundle.tN "UNASSIGNED_STACK" Bundle.steD) ∈ jv_nl := by decide +kernel
theorem jn_ss : Cond.isRef (.static Bundle.tN "SUPPRESSED_SENTINEL" Bundle.listD) ∈ jv_nl := by decide +kernel
theorem jn_nc : Cond.not (.castable "java/lang/IllegalArgumentException" "java/util/NoSuchElementException") ∈ jv_nl := by decide +kernel
theorem jv_Uof {s : State} {l : Launch} {b L : Nat} {xs : Nat → Int32} (hl : l.stackTraces = false) (hL : L ≤ 3072) (hts : ∀ w ∈ lw_tbl, w.before #[Value.ref b] s = true) (hX : va_X b L xs s s.heap) (hb : b < s.heap.size) (hgv : (Jvm.Cond.and given_1 narrow_1).before #[Value.ref b] s = true) :
    ∃ X : jx, X.1 = l ∧ X.2.2.1 = s.heap ∧ jv_ad X 13 = b ∧ X.2.2.2.2.2.1 = L ∧ X.2.2.2.2.2.2 = xs ∧ jv_U X s := by
  obtain ⟨D, ct, hK, hao1, hao2⟩ := jv_Kof hts
  have hn := flat_of_before _ hgv
  have hA : ∀ a : Nat, a < s.heap.size → ¬ (fun q : Nat => s.heap.size ≤ q) a := fun a h1 h2 => absurd h1 (Nat.not_lt.mpr h2)
  obtain ⟨sd, hsd⟩ : ∃ sd : Nat → Nat × Nat, ∀ i, i < 17 → (jv_tm i).eval #[Value.ref b] s none [] s = some (.ref (sd i).1) ∧ va_O "java/lang/String" (sd i).1 (fun q : Nat => s.heap.size ≤ q) s s.heap ∧ va_OF "java/lang/String" "coder" "B" (.int 0) (sd i).1 (fun q : Nat => s.heap.size ≤ q) s s.heap ∧ va_OF "java/lang/String" "value" "[B" (.ref (sd i).2) (sd i).1 (fun q : Nat => s.heap.size ≤ q) s s.heap ∧ va_T .byte (sd i).2 ((jv_tx.map List.length).getD i 0) (fun j => .int (((jv_tx.map fun l => l.map Int32.ofNat).getD i []).getD j 0)) (fun q : Nat => s.heap.size ≤ q) s s.heap := by
    have h0 : ∀ i : Nat, ∃ q : Nat × Nat, i < 17 → (jv_tm i).eval #[Value.ref b] s none [] s = some (.ref q.1) ∧ va_O "java/lang/String" q.1 (fun q : Nat => s.heap.size ≤ q) s s.heap ∧ va_OF "java/lang/String" "coder" "B" (.int 0) q.1 (fun q : Nat => s.heap.size ≤ q) s s.heap ∧ va_OF "java/lang/String" "value" "[B" (.ref q.2) q.1 (fun q : Nat => s.heap.size ≤ q) s s.heap ∧ va_T .byte q.2 ((jv_tx.map List.length).getD i 0) (fun j => .int (((jv_tx.map fun l => l.map Int32.ofNat).getD i []).getD j 0)) (fun q : Nat => s.heap.size ≤ q) s s.heap := by
      intro i
      by_cases hi : i < 17
      · obtain ⟨a, c, cA, kA, q1, q2, q3, q4, q5, q6, -⟩ := Cond.exactly_spec (args := #[Value.ref b]) (first := s) (o := none) (s := s) (idx := []) (t := jv_tm i) (cls := "java/lang/String") (hn _ (jn_ex i hi))
        obtain ⟨t, ht, hT⟩ := va_Tof (f := fun j => .int (((jv_tx.map fun l => l.map Int32.ofNat).getD i []).getD j 0)) (A := fun q : Nat => s.heap.size ≤ q) (jn_ln i hi) (hn _ (jn_ar i hi)) (va_eqt (hn _ (jn_le i hi))) (fun j hj => va_eqt (hn _ (jn_el i hi j hj))) hA
        exact ⟨(a, t), fun _ => ⟨q1, ⟨cA, q3, q5, by rw [q6]; exact q2, hA a (Array.getElem?_eq_some_iff.mp q3).1⟩, vk_OFof q1 (va_eqt (hn _ (jn_co i hi))) hA, vk_OFof q1 ht hA, hT⟩⟩
      · exact ⟨(0, 0), fun h => absurd h hi⟩
    obtain ⟨ad, had⟩ := Classical.axiomOfChoice h0
    exact ⟨ad, had⟩
  obtain ⟨ed, hed⟩ : ∃ ed : Nat → Nat, ∀ i, i < 11 → (jv_ac i).eval #[Value.ref b] s none [] s = some (.ref (ed i)) ∧ va_O RX1 (ed i) (fun q : Nat => s.heap.size ≤ q) s s.heap := by
    have h0 : ∀ i : Nat, ∃ t : Nat, i < 11 → (jv_ac i).eval #[Value.ref b] s none [] s = some (.ref t) ∧ va_O RX1 t (fun q : Nat => s.heap.size ≤ q) s s.heap := by
      intro i
      by_cases hi : i < 11
      · obtain ⟨a, c, cell, k, q1, q2, q3, q4, q5, q6, -⟩ := Cond.exactly_spec (hn _ (jn_ax i hi))
        exact ⟨a, fun _ => ⟨q1, cell, q3, q5, by rw [q6]; exact q2, hA a (Array.getElem?_eq_some_iff.mp q3).1⟩⟩
      · exact ⟨0, fun h => absurd h hi⟩
    obtain ⟨ad, had⟩ := Classical.axiomOfChoice h0
    exact ⟨ad, had⟩
  obtain ⟨m1, hm1, hm2⟩ := va_Tof (tm := jv_sm) (ty := .int) (N := 11) (f := fun j => .int (Int32.ofNat (j + 1))) (A := fun q : Nat => s.heap.size ≤ q) (by decide) (hn _ jn_m1) (va_eqt (hn _ jn_m2)) (fun j hj => va_eqt (hn _ (jn_m3 j hj))) hA
  obtain ⟨m2, hl1, hl2⟩ := va_Tof (tm := jv_at9) (ty := .object RX1) (N := 11) (f := fun j => .ref (ed j)) (A := fun q : Nat => s.heap.size ≤ q) (by decide) (hn _ jn_l1) (va_eqt (hn _ jn_l2)) (fun j hj => va_eqv (hn _ (jn_l3 j hj)) (hed j hj).1) hA
  have hac : Cond.initialized RX1 ∈ lw_tbl := (jv_at 180 (by decide +kernel))
  let ad : Nat → Nat := fun k => if k < 11 then ed k else if k = 11 then m1 else if k = 12 then m2 else if k = 13 then b else if k < 40 then (sd (k - 20)).1 else (sd (k - 40)).2
  have e0 : ∀ i, i < 11 → ad i = ed i := fun i hi => if_pos hi
  have e1 : ∀ i, i < 17 → ad (20 + i) = (sd i).1 := fun i hi => by
    show (if 20 + i < 11 then _ else if 20 + i = 11 then _ else if 20 + i = 12 then _ else if 20 + i = 13 then _ else if 20 + i < 40 then _ else _) = _
    rw [if_neg (by omega), if_neg (by omega), if_neg (by omega), if_neg (by omega), if_pos (by omega)]
    rw [Nat.add_sub_cancel_left]
  have e2 : ∀ i, i < 17 → ad (40 + i) = (sd i).2 := fun i hi => by
    show (if 40 + i < 11 then _ else if 40 + i = 11 then _ else if 40 + i = 12 then _ else if 40 + i = 13 then _ else if 40 + i < 40 then _ else _) = _
    rw [if_neg (by omega), if_neg (by omega), if_neg (by omega), if_neg (by omega), if_neg (by omega)]
    rw [Nat.add_sub_cancel_left]
  refine ⟨(l, D, s.heap, ct, ad, L, xs), rfl, rfl, rfl, rfl, rfl, jv_Tof hts, hK, ?_, hao1, hao2⟩
  refine ⟨hl, ⟨hX, hb, hL⟩, ⟨vx_Zqof (hts _ (jv_at 971 (by decide +kernel))) (hts _ (jv_at 173 (by decide +kernel))) (hn _ jn_us) hA, vx_Zqof (hts _ (jv_at 973 (by decide +kernel))) (hts _ (jv_at 173 (by decide +kernel))) (hn _ jn_ss) hA⟩, fun i hi => ?_, fun i j hi hj e => ?_, ⟨va_Zref (hts _ (jv_at 595 (by decide +kernel))) (hts _ (jv_at 185 (by decide +kernel))) hm1 hA, hm2⟩, ⟨va_Zref (hts _ (jv_at 1026 (by decide +kernel))) (hts _ hac) hl1 hA, ?_⟩, ⟨fun i hi => ?_, trivial⟩, fun i hi => ?_, va_Zof (hts _ (jv_at 1040 (by decide +kernel))) (hts _ (jv_at 181 (by decide +kernel))) (va_eqi (hn _ jn_cs)) hA, va_Zqof (hts _ (jv_at 1056 (by decide +kernel))) (hts _ (jv_at 183 (by decide +kernel))) (hn _ jn_si) hA, va_Nc.of (hn _ jn_nc)⟩
  · show va_Z RX1 _ _ (.ref (ad i)) _ _ _ ∧ va_O RX1 (ad i) _ _ _ ∧ va_OF _ _ _ _ (ad i) _ _ _ ∧ va_OF RX1 _ _ (.ref (ad (20 + i))) (ad i) _ _ _ ∧ va_OF RX1 _ _ (.ref (ad (20 + jv_sh.getD i 0))) (ad i) _ _ _
    have hs := jn_sh i hi
    rw [e0 i hi, e1 i (by omega), e1 _ hs]
    exact ⟨va_Zref (hts _ (jn_al i hi)) (hts _ hac) (hed i hi).1 hA, (hed i hi).2, vk_OFof (hed i hi).1 (va_eqt (hn _ (jn_ao i hi))) hA, vk_OFof (hed i hi).1 (va_eqv (hn _ (jn_aw i hi)) (hsd i (by omega)).1) hA, vk_OFof (hed i hi).1 (va_eqv (hn _ (jn_as i hi)) (hsd _ hs).1) hA⟩
  · have e9 : ed i = ed j := by rw [← e0 i hi, ← e0 j hj]; exact e
    by_cases hij : i = j
    · exact hij
    · rcases jn_ad i hi j hj hij with h | h
      · exact absurd e9 (va_neR (hn _ h) (hed i hi).1 (hed j hj).1)
      · exact absurd e9.symm (va_neR (hn _ h) (hed j hj).1 (hed i hi).1)
  · obtain ⟨cell, q1, q2, q3, q4, q5, q6, q7⟩ := hl2
    exact ⟨cell, q1, q2, q3, q4, q5, fun j hj => by rw [q6 j hj]; show some (Value.ref (ed j)) = some (Value.ref (ad j)); rw [e0 j hj], q7⟩
  · show va_O _ (ad (20 + i)) _ _ _ ∧ va_OF _ _ _ _ (ad (20 + i)) _ _ _ ∧ va_OF _ _ _ (.ref (ad (40 + i))) (ad (20 + i)) _ _ _ ∧ va_T _ (ad (40 + i)) _ _ _ _ _
    rw [e1 i hi, e2 i hi]
    exact (hsd i hi).2
  · show vk_R RX13 _ _ (ad (20 + i)) s
    rw [e1 i (by omega)]
    exact vk_R.of (hts _ (jn_ms i hi)) (va_eqv (hn _ (jn_mw i hi)) (hsd i (by omega)).1)
