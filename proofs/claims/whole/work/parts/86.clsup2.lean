/-! further changes of the World and of the state -/
theorem ClsV_nm {w w' : ms} {v v' : vw} (C : ClsV w v) (B : Bd v) (c0 : Nat) (hc0 : c0 < 16) (N : ∀ f, f ≠ 6 → w' f = w f) (E : ∀ a j, ¬ (a = 8 ∧ 8 * c0 ≤ j ∧ j < 8 * c0 + 8) → v' a j = v a j) (F : ∀ j, ¬ (8 * c0 ≤ j ∧ j < 8 * c0 + 8) → w' 6 j = w 6 j) (T : ∀ y, y < 8 → w' 6 (8 * c0 + y) = nI (v' 8 (8 * c0 + y))) : ClsV w' v' := by
  have B0 := B.2.1
  have B1 := B.2.2.1
  have B2 := B.2.2.2.1
  refine ⟨?_, ?_, ?_, ?_, ?_, ?_, ?_, ?_, ?_, ?_, ?_, ?_, ?_, ?_, ?_, ?_, ?_, ?_, ?_, ?_, ?_⟩
  · intro p k hp hk
    rw [N _ (by omega), E _ _ (by omega), C.pa p k hp hk]
  · -- nm
    intro p s hp hs
    by_cases h : p = c0
    · rw [h]; exact T s hs
    · rw [F _ (by omega), E _ _ (by omega), C.nm p s hp hs]
  · intro i hi
    rw [N 7 (by omega), E _ _ (by omega), C.th i hi]
  · intro i hi
    rw [N 8 (by omega), E _ _ (by omega), E _ _ (by omega), C.pw i hi]
  · rw [N 10 (by omega), E _ _ (by omega), C.c0 ]
  · rw [N 15 (by omega), E _ _ (by omega), C.c1 ]
  · rw [N 22 (by omega), E _ _ (by omega), C.c2 ]
  · intro s hs
    rw [E _ _ (by omega)] at hs
    rw [N 9 (by omega), E _ _ (by omega), C.a0 s hs]
  · intro s hs
    rw [E _ _ (by omega)] at hs
    rw [N 14 (by omega), E _ _ (by omega), C.a1 s hs]
  · intro s hs
    rw [E _ _ (by omega)] at hs
    rw [N 21 (by omega), E _ _ (by omega), C.a2 s hs]
  · intro s hs
    rw [E _ _ (by omega)] at hs
    rw [N 11 (by omega), E _ _ (by omega), C.nk s hs]
  · intro s hs
    rw [N 12 (by omega), E _ _ (by omega), E _ _ (by omega), C.gv s hs]
  · intro s hs
    rw [N 13 (by omega), E _ _ (by omega), E _ _ (by omega), C.it s hs]
  · intro s hs
    rw [E _ _ (by omega)] at hs
    rw [N 16 (by omega), E _ _ (by omega), C.uk s hs]
  · intro s hs
    rw [E _ _ (by omega)] at hs
    rw [N 17 (by omega), E _ _ (by omega), C.rn s hs]
  · intro s r hs hr
    rw [E _ _ (by omega)] at hs
    rw [E _ _ (by omega)] at hr
    have := B.2.2.2.2 s hs
    rw [N 18 (by omega), E _ _ (by omega), C.ri s r hs hr]
  · intro s r hs hr
    rw [E _ _ (by omega)] at hs
    rw [E _ _ (by omega)] at hr
    have := B.2.2.2.2 s hs
    rw [N 19 (by omega), E _ _ (by omega), C.ro s r hs hr]
  · intro s r hs hr
    rw [E _ _ (by omega)] at hs
    rw [E _ _ (by omega)] at hr
    have := B.2.2.2.2 s hs
    rw [N 20 (by omega), E _ _ (by omega), C.rm s r hs hr]
  · intro s hs
    rw [E _ _ (by omega)] at hs
    rw [N 23 (by omega), E _ _ (by omega), C.mk s hs]
  · intro s i hs hi
    rw [E _ _ (by omega)] at hs
    rw [N 24 (by omega), E _ _ (by omega), C.tg s i hs hi]
  · intro i hi
    rw [N 25 (by omega), E _ _ (by omega), E _ _ (by omega), C.sh i hi]
theorem ClsV_gv {w w' : ms} {v v' : vw} (C : ClsV w v) (B : Bd v) (x0 : Nat) (hx0 : x0 < v 10 0) (N : ∀ f, f ≠ 12 → w' f = w f) (F : ∀ j, j ≠ x0 → w' 12 j = w 12 j) (T : w' 12 x0 = nI (v' 50 x0)) (E : ∀ a j, ¬ (a = 50 ∧ j = x0) → v' a j = v a j) : ClsV w' v' := by
  have B0 := B.2.1
  have B1 := B.2.2.1
  have B2 := B.2.2.2.1
  refine ⟨?_, ?_, ?_, ?_, ?_, ?_, ?_, ?_, ?_, ?_, ?_, ?_, ?_, ?_, ?_, ?_, ?_, ?_, ?_, ?_, ?_⟩
  · intro p k hp hk
    rw [N _ (by omega), E _ _ (by omega), C.pa p k hp hk]
  · intro p s hp hs
    rw [N 6 (by omega), E _ _ (by omega), C.nm p s hp hs]
  · intro i hi
    rw [N 7 (by omega), E _ _ (by omega), C.th i hi]
  · intro i hi
    rw [N 8 (by omega), E _ _ (by omega), E _ _ (by omega), C.pw i hi]
  · rw [N 10 (by omega), E _ _ (by omega), C.c0 ]
  · rw [N 15 (by omega), E _ _ (by omega), C.c1 ]
  · rw [N 22 (by omega), E _ _ (by omega), C.c2 ]
  · intro s hs
    rw [E _ _ (by omega)] at hs
    rw [N 9 (by omega), E _ _ (by omega), C.a0 s hs]
  · intro s hs
    rw [E _ _ (by omega)] at hs
    rw [N 14 (by omega), E _ _ (by omega), C.a1 s hs]
  · intro s hs
    rw [E _ _ (by omega)] at hs
    rw [N 21 (by omega), E _ _ (by omega), C.a2 s hs]
  · intro s hs
    rw [E _ _ (by omega)] at hs
    rw [N 11 (by omega), E _ _ (by omega), C.nk s hs]
  · -- gv
    intro s hs
    rw [E 10 0 (by omega)]
    by_cases h : s = x0
    · rw [h, T, if_pos hx0]
    · rw [F s h, E 50 s (by omega), C.gv s hs]
  · intro s hs
    rw [N 13 (by omega), E _ _ (by omega), E _ _ (by omega), C.it s hs]
  · intro s hs
    rw [E _ _ (by omega)] at hs
    rw [N 16 (by omega), E _ _ (by omega), C.uk s hs]
  · intro s hs
    rw [E _ _ (by omega)] at hs
    rw [N 17 (by omega), E _ _ (by omega), C.rn s hs]
  · intro s r hs hr
    rw [E _ _ (by omega)] at hs
    rw [E _ _ (by omega)] at hr
    have := B.2.2.2.2 s hs
    rw [N 18 (by omega), E _ _ (by omega), C.ri s r hs hr]
  · intro s r hs hr
    rw [E _ _ (by omega)] at hs
    rw [E _ _ (by omega)] at hr
    have := B.2.2.2.2 s hs
    rw [N 19 (by omega), E _ _ (by omega), C.ro s r hs hr]
  · intro s r hs hr
    rw [E _ _ (by omega)] at hs
    rw [E _ _ (by omega)] at hr
    have := B.2.2.2.2 s hs
    rw [N 20 (by omega), E _ _ (by omega), C.rm s r hs hr]
  · intro s hs
    rw [E _ _ (by omega)] at hs
    rw [N 23 (by omega), E _ _ (by omega), C.mk s hs]
  · intro s i hs hi
    rw [E _ _ (by omega)] at hs
    rw [N 24 (by omega), E _ _ (by omega), C.tg s i hs hi]
  · intro i hi
    rw [N 25 (by omega), E _ _ (by omega), E _ _ (by omega), C.sh i hi]
theorem ClsV_add {w w' : ms} {v v' : vw} (C : ClsV w v) (B : Bd v) (c0 : Nat) (hc0 : c0 < 16) (N : ∀ f, 8 < f → w' f = w f) (E : ∀ a j, ¬ (a ≤ 7 ∧ j = c0) ∧ ¬ (a = 8 ∧ 8 * c0 ≤ j ∧ j < 8 * c0 + 8) → v' a j = v a j) (T : ∀ k, k < 6 → w' k = upd (w k) c0 (nI (v' (k + 1) c0))) (F6 : ∀ j, ¬ (8 * c0 ≤ j ∧ j < 8 * c0 + 8) → w' 6 j = w 6 j) (T6 : ∀ y, y < 8 → w' 6 (8 * c0 + y) = nI (v' 8 (8 * c0 + y))) (T7 : ∀ i, i < 32 → hb (w' 7 0) i = decide (i < 16 ∧ v' 0 i = 1)) (T8 : ∀ i, i < 32 → hb (w' 8 0) i = decide (i < 16 ∧ v' 0 i = 1 ∧ v' 7 i = 1)) : ClsV w' v' := by
  have B0 := B.2.1
  have B1 := B.2.2.1
  have B2 := B.2.2.2.1
  refine ⟨?_, ?_, ?_, ?_, ?_, ?_, ?_, ?_, ?_, ?_, ?_, ?_, ?_, ?_, ?_, ?_, ?_, ?_, ?_, ?_, ?_⟩
  · -- pa
    intro p k hp hk
    rw [T k hk]
    by_cases h : p = c0
    · rw [h, upd_eq']
    · rw [upd_ne' _ _ _ _ h, E _ _ (by omega), C.pa p k hp hk]
  · -- nm
    intro p s hp hs
    by_cases h : p = c0
    · rw [h]; exact T6 s hs
    · rw [F6 _ (by omega), E _ _ (by omega), C.nm p s hp hs]
  · -- th
    exact T7
  · -- pw
    exact T8
  · rw [N 10 (by omega), E _ _ (by omega), C.c0 ]
  · rw [N 15 (by omega), E _ _ (by omega), C.c1 ]
  · rw [N 22 (by omega), E _ _ (by omega), C.c2 ]
  · intro s hs
    rw [E _ _ (by omega)] at hs
    rw [N 9 (by omega), E _ _ (by omega), C.a0 s hs]
  · intro s hs
    rw [E _ _ (by omega)] at hs
    rw [N 14 (by omega), E _ _ (by omega), C.a1 s hs]
  · intro s hs
    rw [E _ _ (by omega)] at hs
    rw [N 21 (by omega), E _ _ (by omega), C.a2 s hs]
  · intro s hs
    rw [E _ _ (by omega)] at hs
    rw [N 11 (by omega), E _ _ (by omega), C.nk s hs]
  · intro s hs
    rw [N 12 (by omega), E _ _ (by omega), E _ _ (by omega), C.gv s hs]
  · intro s hs
    rw [N 13 (by omega), E _ _ (by omega), E _ _ (by omega), C.it s hs]
  · intro s hs
    rw [E _ _ (by omega)] at hs
    rw [N 16 (by omega), E _ _ (by omega), C.uk s hs]
  · intro s hs
    rw [E _ _ (by omega)] at hs
    rw [N 17 (by omega), E _ _ (by omega), C.rn s hs]
  · intro s r hs hr
    rw [E _ _ (by omega)] at hs
    rw [E _ _ (by omega)] at hr
    have := B.2.2.2.2 s hs
    rw [N 18 (by omega), E _ _ (by omega), C.ri s r hs hr]
  · intro s r hs hr
    rw [E _ _ (by omega)] at hs
    rw [E _ _ (by omega)] at hr
    have := B.2.2.2.2 s hs
    rw [N 19 (by omega), E _ _ (by omega), C.ro s r hs hr]
  · intro s r hs hr
    rw [E _ _ (by omega)] at hs
    rw [E _ _ (by omega)] at hr
    have := B.2.2.2.2 s hs
    rw [N 20 (by omega), E _ _ (by omega), C.rm s r hs hr]
  · intro s hs
    rw [E _ _ (by omega)] at hs
    rw [N 23 (by omega), E _ _ (by omega), C.mk s hs]
  · intro s i hs hi
    rw [E _ _ (by omega)] at hs
    rw [N 24 (by omega), E _ _ (by omega), C.tg s i hs hi]
  · intro i hi
    rw [N 25 (by omega), E _ _ (by omega), E _ _ (by omega), C.sh i hi]
