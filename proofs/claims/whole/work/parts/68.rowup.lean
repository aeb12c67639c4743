/-! changes of the row and of the state -/
def Bd (v : vw) : Prop := (∀ k, k < 3 → v (10 + k) 0 ≤ 8) ∧ v 10 0 ≤ 8 ∧ v 11 0 ≤ 8 ∧ v 12 0 ≤ 8 ∧ ∀ y, y < v 11 0 → v 60 y ≤ 3
theorem WFv.bd {v : vw} (W : WFv v) : Bd v := ⟨fun k hk => (W.ct k hk).2, W.c0.2, W.c1.2, W.c2.2, fun y hy => (W.uk y hy).2⟩
theorem Bd_eq {v v' : vw} (B : Bd v) (h0 : v' 10 0 = v 10 0) (h1 : v' 11 0 = v 11 0) (h2 : v' 12 0 = v 12 0) (h3 : v' 60 = v 60) : Bd v' := by
  refine ⟨?_, by rw [h0]; exact B.2.1, by rw [h1]; exact B.2.2.1, by rw [h2]; exact B.2.2.2.1, by rw [h1, h3]; exact B.2.2.2.2⟩
  intro k hk
  have : k = 0 ∨ k = 1 ∨ k = 2 := by omega
  rcases this with rfl | rfl | rfl
  · rw [show v' (10 + 0) 0 = v 10 0 from h0]; exact B.2.1
  · rw [show v' (10 + 1) 0 = v 11 0 from h1]; exact B.2.2.1
  · rw [show v' (10 + 2) 0 = v 12 0 from h2]; exact B.2.2.2.1
def upv (v : vw) (k i x : Nat) : vw := fun a j => if a = k ∧ j = i then x else v a j
theorem upv_eq (v : vw) (k i x : Nat) : upv v k i x k i = x := if_pos ⟨rfl, rfl⟩
theorem upv_ne (v : vw) (k i x a j : Nat) (h : ¬ (a = k ∧ j = i)) : upv v k i x a j = v a j := if_neg h
theorem upd_eq' (n : Nat → Int32) (i : Nat) (x : Int32) : upd n i x i = x := if_pos rfl
theorem upd_ne' (n : Nat → Int32) (i j : Nat) (x : Int32) (h : j ≠ i) : upd n i x j = n j := if_neg h
theorem RowV_pr {n n' : Nat → Int32} {v v' : vw} (R : RowV n v) (B : Bd v) (p k x : Nat) (hp : p < 16) (hk : k < 8) (N : ∀ j, j ≠ 8 * p + k → n' j = n j) (N0 : n' (8 * p + k) = nI x) (E : ∀ a j, ¬ (a = k ∧ j = p) → v' a j = v a j) (E0 : v' k p = x) : RowV n' v' := by
  have B0 := B.2.1
  have B1 := B.2.2.1
  have B2 := B.2.2.2.1
  refine ⟨?_, ?_, ?_, ?_, ?_, ?_, ?_, ?_, ?_, ?_, ?_, ?_, ?_, ?_, ?_⟩
  · -- pr
    intro q j hq hj
    by_cases h : j = k ∧ q = p
    · rw [h.1, h.2, N0, E0]
    · rw [N _ (by omega), E _ _ h, R.pr q j hq hj]
  · intro q j hq hj
    rw [N _ (by omega), E _ _ (by omega), R.nm q j hq hj]
  · intro j hj
    rw [N _ (by omega), E _ _ (by omega), R.ct j hj]
  · intro j y hj hy
    rw [E _ _ (by omega)] at hy
    have := B.1 j hj
    rw [N _ (by omega), E _ _ (by omega), R.ar j y hj hy]
  · intro j y hj hy
    rw [E _ _ (by omega)] at hy
    have := B.1 j hj
    rw [N _ (by omega), E _ _ (by omega), R.dp j y hj hy]
  · intro j y hj hy
    rw [E _ _ (by omega)] at hy
    have := B.1 j hj
    rw [N _ (by omega), E _ _ (by omega), R.kp j y hj hy]
  · intro y hy
    rw [E _ _ (by omega)] at hy
    rw [N _ (by omega), E _ _ (by omega), R.gv y hy]
  · intro y hy
    rw [E _ _ (by omega)] at hy
    rw [N _ (by omega), E _ _ (by omega), R.bg y hy]
  · intro y hy hz
    rw [E _ _ (by omega)] at hy
    rw [E _ _ (by omega)] at hz
    rw [N _ (by omega), E _ _ (by omega), R.it y hy hz]
  · intro y hy
    rw [E _ _ (by omega)] at hy
    rw [N _ (by omega), E _ _ (by omega), R.rn y hy]
  · intro y r hy hr
    rw [E _ _ (by omega)] at hy
    rw [E _ _ (by omega)] at hr
    have := B.2.2.2.2 y hy
    rw [N _ (by omega), E _ _ (by omega), R.ri y r hy hr]
  · intro y r hy hr
    rw [E _ _ (by omega)] at hy
    rw [E _ _ (by omega)] at hr
    have := B.2.2.2.2 y hy
    rw [N _ (by omega), E _ _ (by omega), R.ro y r hy hr]
  · intro y r hy hr
    rw [E _ _ (by omega)] at hy
    rw [E _ _ (by omega)] at hr
    have := B.2.2.2.2 y hy
    rw [N _ (by omega), E _ _ (by omega), R.rm y r hy hr]
  · intro y hy
    rw [E _ _ (by omega)] at hy
    rw [N _ (by omega), E _ _ (by omega), R.sh y hy]
  · intro y i hy hi
    rw [E _ _ (by omega)] at hy
    rw [N _ (by omega), E _ _ (by omega), R.tg y i hy hi]
theorem RowV_nm {n n' : Nat → Int32} {v v' : vw} (R : RowV n v) (B : Bd v) (c : Nat) (hc : c < 16) (N : ∀ j, ¬ (128 + 8 * c ≤ j ∧ j < 136 + 8 * c) → n' j = n j) (E : ∀ a j, ¬ (a = 8 ∧ 8 * c ≤ j ∧ j < 8 * c + 8) → v' a j = v a j) (T : ∀ y, y < 8 → n' (128 + (8 * c + y)) = nI (v' 8 (8 * c + y))) : RowV n' v' := by
  have B0 := B.2.1
  have B1 := B.2.2.1
  have B2 := B.2.2.2.1
  refine ⟨?_, ?_, ?_, ?_, ?_, ?_, ?_, ?_, ?_, ?_, ?_, ?_, ?_, ?_, ?_⟩
  · intro q j hq hj
    rw [N _ (by omega), E _ _ (by omega), R.pr q j hq hj]
  · -- nm
    intro q j hq hj
    by_cases h : q = c
    · rw [h]; exact T j hj
    · rw [N _ (by omega), E _ _ (by omega), R.nm q j hq hj]
  · intro j hj
    rw [N _ (by omega), E _ _ (by omega), R.ct j hj]
  · intro j y hj hy
    rw [E _ _ (by omega)] at hy
    have := B.1 j hj
    rw [N _ (by omega), E _ _ (by omega), R.ar j y hj hy]
  · intro j y hj hy
    rw [E _ _ (by omega)] at hy
    have := B.1 j hj
    rw [N _ (by omega), E _ _ (by omega), R.dp j y hj hy]
  · intro j y hj hy
    rw [E _ _ (by omega)] at hy
    have := B.1 j hj
    rw [N _ (by omega), E _ _ (by omega), R.kp j y hj hy]
  · intro y hy
    rw [E _ _ (by omega)] at hy
    rw [N _ (by omega), E _ _ (by omega), R.gv y hy]
  · intro y hy
    rw [E _ _ (by omega)] at hy
    rw [N _ (by omega), E _ _ (by omega), R.bg y hy]
  · intro y hy hz
    rw [E _ _ (by omega)] at hy
    rw [E _ _ (by omega)] at hz
    rw [N _ (by omega), E _ _ (by omega), R.it y hy hz]
  · intro y hy
    rw [E _ _ (by omega)] at hy
    rw [N _ (by omega), E _ _ (by omega), R.rn y hy]
  · intro y r hy hr
    rw [E _ _ (by omega)] at hy
    rw [E _ _ (by omega)] at hr
    have := B.2.2.2.2 y hy
    rw [N _ (by omega), E _ _ (by omega), R.ri y r hy hr]
  · intro y r hy hr
    rw [E _ _ (by omega)] at hy
    rw [E _ _ (by omega)] at hr
    have := B.2.2.2.2 y hy
    rw [N _ (by omega), E _ _ (by omega), R.ro y r hy hr]
  · intro y r hy hr
    rw [E _ _ (by omega)] at hy
    rw [E _ _ (by omega)] at hr
    have := B.2.2.2.2 y hy
    rw [N _ (by omega), E _ _ (by omega), R.rm y r hy hr]
  · intro y hy
    rw [E _ _ (by omega)] at hy
    rw [N _ (by omega), E _ _ (by omega), R.sh y hy]
  · intro y i hy hi
    rw [E _ _ (by omega)] at hy
    rw [N _ (by omega), E _ _ (by omega), R.tg y i hy hi]
theorem RowV_gv {n n' : Nat → Int32} {v v' : vw} (R : RowV n v) (B : Bd v) (x : Nat) (hx : x < 8) (N : ∀ j, j ≠ 256 + 14 * (8 * 0 + x) + 3 → n' j = n j) (E : ∀ a j, ¬ (a = 50 ∧ j = x) → v' a j = v a j) (T : n' (256 + 14 * (8 * 0 + x) + 3) = nI (v' 50 x)) : RowV n' v' := by
  have B0 := B.2.1
  have B1 := B.2.2.1
  have B2 := B.2.2.2.1
  refine ⟨?_, ?_, ?_, ?_, ?_, ?_, ?_, ?_, ?_, ?_, ?_, ?_, ?_, ?_, ?_⟩
  · intro q j hq hj
    rw [N _ (by omega), E _ _ (by omega), R.pr q j hq hj]
  · intro q j hq hj
    rw [N _ (by omega), E _ _ (by omega), R.nm q j hq hj]
  · intro j hj
    rw [N _ (by omega), E _ _ (by omega), R.ct j hj]
  · intro j y hj hy
    rw [E _ _ (by omega)] at hy
    have := B.1 j hj
    rw [N _ (by omega), E _ _ (by omega), R.ar j y hj hy]
  · intro j y hj hy
    rw [E _ _ (by omega)] at hy
    have := B.1 j hj
    rw [N _ (by omega), E _ _ (by omega), R.dp j y hj hy]
  · intro j y hj hy
    rw [E _ _ (by omega)] at hy
    have := B.1 j hj
    rw [N _ (by omega), E _ _ (by omega), R.kp j y hj hy]
  · -- gv
    intro y hy
    rw [E _ _ (by omega)] at hy
    by_cases h : y = x
    · rw [h]; exact T
    · rw [N _ (by omega), E _ _ (by omega), R.gv y hy]
  · intro y hy
    rw [E _ _ (by omega)] at hy
    rw [N _ (by omega), E _ _ (by omega), R.bg y hy]
  · intro y hy hz
    rw [E _ _ (by omega)] at hy
    rw [E _ _ (by omega)] at hz
    rw [N _ (by omega), E _ _ (by omega), R.it y hy hz]
  · intro y hy
    rw [E _ _ (by omega)] at hy
    rw [N _ (by omega), E _ _ (by omega), R.rn y hy]
  · intro y r hy hr
    rw [E _ _ (by omega)] at hy
    rw [E _ _ (by omega)] at hr
    have := B.2.2.2.2 y hy
    rw [N _ (by omega), E _ _ (by omega), R.ri y r hy hr]
  · intro y r hy hr
    rw [E _ _ (by omega)] at hy
    rw [E _ _ (by omega)] at hr
    have := B.2.2.2.2 y hy
    rw [N _ (by omega), E _ _ (by omega), R.ro y r hy hr]
  · intro y r hy hr
    rw [E _ _ (by omega)] at hy
    rw [E _ _ (by omega)] at hr
    have := B.2.2.2.2 y hy
    rw [N _ (by omega), E _ _ (by omega), R.rm y r hy hr]
  · intro y hy
    rw [E _ _ (by omega)] at hy
    rw [N _ (by omega), E _ _ (by omega), R.sh y hy]
  · intro y i hy hi
    rw [E _ _ (by omega)] at hy
    rw [N _ (by omega), E _ _ (by omega), R.tg y i hy hi]
theorem RowV_it {n n' : Nat → Int32} {v v' : vw} (R : RowV n v) (B : Bd v) (x : Nat) (hx : x < 8) (N : ∀ j, ¬ (j = 256 + 14 * (8 * 0 + x) + 4 ∨ j = 256 + 14 * (8 * 0 + x) + 5) → n' j = n j) (E : ∀ a j, ¬ (a = 51 ∧ j = x) → v' a j = v a j) (T0 : v' 51 x ≠ 0) (T5 : n' (256 + 14 * (8 * 0 + x) + 5) = nI 1) (T4 : n' (256 + 14 * (8 * 0 + x) + 4) = if v' 51 x = 1 then nm1 else nI (v' 51 x - 2)) : RowV n' v' := by
  have B0 := B.2.1
  have B1 := B.2.2.1
  have B2 := B.2.2.2.1
  refine ⟨?_, ?_, ?_, ?_, ?_, ?_, ?_, ?_, ?_, ?_, ?_, ?_, ?_, ?_, ?_⟩
  · intro q j hq hj
    rw [N _ (by omega), E _ _ (by omega), R.pr q j hq hj]
  · intro q j hq hj
    rw [N _ (by omega), E _ _ (by omega), R.nm q j hq hj]
  · intro j hj
    rw [N _ (by omega), E _ _ (by omega), R.ct j hj]
  · intro j y hj hy
    rw [E _ _ (by omega)] at hy
    have := B.1 j hj
    rw [N _ (by omega), E _ _ (by omega), R.ar j y hj hy]
  · intro j y hj hy
    rw [E _ _ (by omega)] at hy
    have := B.1 j hj
    rw [N _ (by omega), E _ _ (by omega), R.dp j y hj hy]
  · intro j y hj hy
    rw [E _ _ (by omega)] at hy
    have := B.1 j hj
    rw [N _ (by omega), E _ _ (by omega), R.kp j y hj hy]
  · intro y hy
    rw [E _ _ (by omega)] at hy
    rw [N _ (by omega), E _ _ (by omega), R.gv y hy]
  · -- bg
    intro y hy
    rw [E _ _ (by omega)] at hy
    by_cases h : y = x
    · rw [h, T5, if_neg T0]
    · rw [N _ (by omega), E _ _ (by omega), R.bg y hy]
  · -- it
    intro y hy hz
    rw [E _ _ (by omega)] at hy
    by_cases h : y = x
    · rw [h]; exact T4
    · rw [E _ _ (by omega)] at hz
      rw [N _ (by omega), E _ _ (by omega), R.it y hy hz]
  · intro y hy
    rw [E _ _ (by omega)] at hy
    rw [N _ (by omega), E _ _ (by omega), R.rn y hy]
  · intro y r hy hr
    rw [E _ _ (by omega)] at hy
    rw [E _ _ (by omega)] at hr
    have := B.2.2.2.2 y hy
    rw [N _ (by omega), E _ _ (by omega), R.ri y r hy hr]
  · intro y r hy hr
    rw [E _ _ (by omega)] at hy
    rw [E _ _ (by omega)] at hr
    have := B.2.2.2.2 y hy
    rw [N _ (by omega), E _ _ (by omega), R.ro y r hy hr]
  · intro y r hy hr
    rw [E _ _ (by omega)] at hy
    rw [E _ _ (by omega)] at hr
    have := B.2.2.2.2 y hy
    rw [N _ (by omega), E _ _ (by omega), R.rm y r hy hr]
  · intro y hy
    rw [E _ _ (by omega)] at hy
    rw [N _ (by omega), E _ _ (by omega), R.sh y hy]
  · intro y i hy hi
    rw [E _ _ (by omega)] at hy
    rw [N _ (by omega), E _ _ (by omega), R.tg y i hy hi]
theorem RowV_sh {n n' : Nat → Int32} {v v' : vw} (R : RowV n v) (B : Bd v) (x : Nat) (hx : x < 8) (N : ∀ j, j ≠ 256 + 14 * (8 * 2 + x) + 3 → n' j = n j) (E : ∀ a j, ¬ (a = 70 ∧ j = x) → v' a j = v a j) (T : n' (256 + 14 * (8 * 2 + x) + 3) = nI (v' 70 x)) : RowV n' v' := by
  have B0 := B.2.1
  have B1 := B.2.2.1
  have B2 := B.2.2.2.1
  refine ⟨?_, ?_, ?_, ?_, ?_, ?_, ?_, ?_, ?_, ?_, ?_, ?_, ?_, ?_, ?_⟩
  · intro q j hq hj
    rw [N _ (by omega), E _ _ (by omega), R.pr q j hq hj]
  · intro q j hq hj
    rw [N _ (by omega), E _ _ (by omega), R.nm q j hq hj]
  · intro j hj
    rw [N _ (by omega), E _ _ (by omega), R.ct j hj]
  · intro j y hj hy
    rw [E _ _ (by omega)] at hy
    have := B.1 j hj
    rw [N _ (by omega), E _ _ (by omega), R.ar j y hj hy]
  · intro j y hj hy
    rw [E _ _ (by omega)] at hy
    have := B.1 j hj
    rw [N _ (by omega), E _ _ (by omega), R.dp j y hj hy]
  · intro j y hj hy
    rw [E _ _ (by omega)] at hy
    have := B.1 j hj
    rw [N _ (by omega), E _ _ (by omega), R.kp j y hj hy]
  · intro y hy
    rw [E _ _ (by omega)] at hy
    rw [N _ (by omega), E _ _ (by omega), R.gv y hy]
  · intro y hy
    rw [E _ _ (by omega)] at hy
    rw [N _ (by omega), E _ _ (by omega), R.bg y hy]
  · intro y hy hz
    rw [E _ _ (by omega)] at hy
    rw [E _ _ (by omega)] at hz
    rw [N _ (by omega), E _ _ (by omega), R.it y hy hz]
  · intro y hy
    rw [E _ _ (by omega)] at hy
    rw [N _ (by omega), E _ _ (by omega), R.rn y hy]
  · intro y r hy hr
    rw [E _ _ (by omega)] at hy
    rw [E _ _ (by omega)] at hr
    have := B.2.2.2.2 y hy
    rw [N _ (by omega), E _ _ (by omega), R.ri y r hy hr]
  · intro y r hy hr
    rw [E _ _ (by omega)] at hy
    rw [E _ _ (by omega)] at hr
    have := B.2.2.2.2 y hy
    rw [N _ (by omega), E _ _ (by omega), R.ro y r hy hr]
  · intro y r hy hr
    rw [E _ _ (by omega)] at hy
    rw [E _ _ (by omega)] at hr
    have := B.2.2.2.2 y hy
    rw [N _ (by omega), E _ _ (by omega), R.rm y r hy hr]
  · -- sh
    intro y hy
    rw [E _ _ (by omega)] at hy
    by_cases h : y = x
    · rw [h]; exact T
    · rw [N _ (by omega), E _ _ (by omega), R.sh y hy]
  · intro y i hy hi
    rw [E _ _ (by omega)] at hy
    rw [N _ (by omega), E _ _ (by omega), R.tg y i hy hi]
theorem RowV_tg {n n' : Nat → Int32} {v v' : vw} (R : RowV n v) (B : Bd v) (x i0 : Nat) (hx : x < 8) (hi0 : i0 < 8) (N : ∀ j, j ≠ 256 + 14 * (8 * 2 + x) + (4 + i0) → n' j = n j) (E : ∀ a j, ¬ (a = 71 ∧ j = 8 * x + i0) → v' a j = v a j) (T : n' (256 + 14 * (8 * 2 + x) + (4 + i0)) = nI (v' 71 (8 * x + i0))) : RowV n' v' := by
  have B0 := B.2.1
  have B1 := B.2.2.1
  have B2 := B.2.2.2.1
  refine ⟨?_, ?_, ?_, ?_, ?_, ?_, ?_, ?_, ?_, ?_, ?_, ?_, ?_, ?_, ?_⟩
  · intro q j hq hj
    rw [N _ (by omega), E _ _ (by omega), R.pr q j hq hj]
  · intro q j hq hj
    rw [N _ (by omega), E _ _ (by omega), R.nm q j hq hj]
  · intro j hj
    rw [N _ (by omega), E _ _ (by omega), R.ct j hj]
  · intro j y hj hy
    rw [E _ _ (by omega)] at hy
    have := B.1 j hj
    rw [N _ (by omega), E _ _ (by omega), R.ar j y hj hy]
  · intro j y hj hy
    rw [E _ _ (by omega)] at hy
    have := B.1 j hj
    rw [N _ (by omega), E _ _ (by omega), R.dp j y hj hy]
  · intro j y hj hy
    rw [E _ _ (by omega)] at hy
    have := B.1 j hj
    rw [N _ (by omega), E _ _ (by omega), R.kp j y hj hy]
  · intro y hy
    rw [E _ _ (by omega)] at hy
    rw [N _ (by omega), E _ _ (by omega), R.gv y hy]
  · intro y hy
    rw [E _ _ (by omega)] at hy
    rw [N _ (by omega), E _ _ (by omega), R.bg y hy]
  · intro y hy hz
    rw [E _ _ (by omega)] at hy
    rw [E _ _ (by omega)] at hz
    rw [N _ (by omega), E _ _ (by omega), R.it y hy hz]
  · intro y hy
    rw [E _ _ (by omega)] at hy
    rw [N _ (by omega), E _ _ (by omega), R.rn y hy]
  · intro y r hy hr
    rw [E _ _ (by omega)] at hy
    rw [E _ _ (by omega)] at hr
    have := B.2.2.2.2 y hy
    rw [N _ (by omega), E _ _ (by omega), R.ri y r hy hr]
  · intro y r hy hr
    rw [E _ _ (by omega)] at hy
    rw [E _ _ (by omega)] at hr
    have := B.2.2.2.2 y hy
    rw [N _ (by omega), E _ _ (by omega), R.ro y r hy hr]
  · intro y r hy hr
    rw [E _ _ (by omega)] at hy
    rw [E _ _ (by omega)] at hr
    have := B.2.2.2.2 y hy
    rw [N _ (by omega), E _ _ (by omega), R.rm y r hy hr]
  · intro y hy
    rw [E _ _ (by omega)] at hy
    rw [N _ (by omega), E _ _ (by omega), R.sh y hy]
  · -- tg
    intro y i hy hi
    rw [E _ _ (by omega)] at hy
    by_cases h : y = x ∧ i = i0
    · rw [h.1, h.2]; exact T
    · rw [N _ (by omega), E _ _ (by omega), R.tg y i hy hi]
theorem RowV_rg {n n' : Nat → Int32} {v v' : vw} (R : RowV n v) (B : Bd v) (x : Nat) (hx : x < 8) (N : ∀ j, ¬ (256 + 14 * (8 * 1 + x) + 3 ≤ j ∧ j < 256 + 14 * (8 * 1 + x) + 13) → n' j = n j) (E : ∀ a j, ¬ (a = 60 ∧ j = x) ∧ ¬ (61 ≤ a ∧ a ≤ 63 ∧ 3 * x ≤ j ∧ j < 3 * x + 3) → v' a j = v a j) (T : n' (256 + 14 * (8 * 1 + x) + 3) = nI (v' 60 x)) (T1 : ∀ r, r < v' 60 x → n' (256 + 14 * (8 * 1 + x) + 4 + 3 * r) = nI (v' 61 (3 * x + r))) (T2 : ∀ r, r < v' 60 x → n' (256 + 14 * (8 * 1 + x) + 4 + 3 * r + 1) = nI (v' 62 (3 * x + r))) (T3 : ∀ r, r < v' 60 x → n' (256 + 14 * (8 * 1 + x) + 4 + 3 * r + 2) = nI (v' 63 (3 * x + r))) : RowV n' v' := by
  have B0 := B.2.1
  have B1 := B.2.2.1
  have B2 := B.2.2.2.1
  refine ⟨?_, ?_, ?_, ?_, ?_, ?_, ?_, ?_, ?_, ?_, ?_, ?_, ?_, ?_, ?_⟩
  · intro q j hq hj
    rw [N _ (by omega), E _ _ (by omega), R.pr q j hq hj]
  · intro q j hq hj
    rw [N _ (by omega), E _ _ (by omega), R.nm q j hq hj]
  · intro j hj
    rw [N _ (by omega), E _ _ (by omega), R.ct j hj]
  · intro j y hj hy
    rw [E _ _ (by omega)] at hy
    have := B.1 j hj
    rw [N _ (by omega), E _ _ (by omega), R.ar j y hj hy]
  · intro j y hj hy
    rw [E _ _ (by omega)] at hy
    have := B.1 j hj
    rw [N _ (by omega), E _ _ (by omega), R.dp j y hj hy]
  · intro j y hj hy
    rw [E _ _ (by omega)] at hy
    have := B.1 j hj
    rw [N _ (by omega), E _ _ (by omega), R.kp j y hj hy]
  · intro y hy
    rw [E _ _ (by omega)] at hy
    rw [N _ (by omega), E _ _ (by omega), R.gv y hy]
  · intro y hy
    rw [E _ _ (by omega)] at hy
    rw [N _ (by omega), E _ _ (by omega), R.bg y hy]
  · intro y hy hz
    rw [E _ _ (by omega)] at hy
    rw [E _ _ (by omega)] at hz
    rw [N _ (by omega), E _ _ (by omega), R.it y hy hz]
  · -- rn
    intro y hy
    rw [E _ _ (by omega)] at hy
    by_cases h : y = x
    · rw [h]; exact T
    · rw [N _ (by omega), E _ _ (by omega), R.rn y hy]
  · -- ri
    intro y r hy hr
    rw [E _ _ (by omega)] at hy
    by_cases h : y = x
    · rw [h] at hr ⊢; exact T1 r hr
    · rw [E _ _ (by omega)] at hr
      have := B.2.2.2.2 y hy
      rw [N _ (by omega), E _ _ (by omega), R.ri y r hy hr]
  · -- ro
    intro y r hy hr
    rw [E _ _ (by omega)] at hy
    by_cases h : y = x
    · rw [h] at hr ⊢; exact T2 r hr
    · rw [E _ _ (by omega)] at hr
      have := B.2.2.2.2 y hy
      rw [N _ (by omega), E _ _ (by omega), R.ro y r hy hr]
  · -- rm
    intro y r hy hr
    rw [E _ _ (by omega)] at hy
    by_cases h : y = x
    · rw [h] at hr ⊢; exact T3 r hr
    · rw [E _ _ (by omega)] at hr
      have := B.2.2.2.2 y hy
      rw [N _ (by omega), E _ _ (by omega), R.rm y r hy hr]
  · intro y hy
    rw [E _ _ (by omega)] at hy
    rw [N _ (by omega), E _ _ (by omega), R.sh y hy]
  · intro y i hy hi
    rw [E _ _ (by omega)] at hy
    rw [N _ (by omega), E _ _ (by omega), R.tg y i hy hi]
