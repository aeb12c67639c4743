/-! changes of the World and of the state -/
theorem ClsV_pa {w w' : ms} {v v' : vw} (C : ClsV w v) (B : Bd v) (p0 k0 x : Nat) (hp0 : p0 < 16) (hk0 : k0 < 6) (N : ∀ f, f ≠ k0 → w' f = w f) (T : w' k0 = upd (w k0) p0 (nI x)) (E : ∀ a j, ¬ (a = k0 + 1 ∧ j = p0) → v' a j = v a j) (E0 : v' (k0 + 1) p0 = x) : ClsV w' v' := by
  have B0 := B.2.1
  have B1 := B.2.2.1
  have B2 := B.2.2.2.1
  refine ⟨?_, ?_, ?_, ?_, ?_, ?_, ?_, ?_, ?_, ?_, ?_, ?_, ?_, ?_, ?_, ?_, ?_, ?_, ?_, ?_, ?_⟩
  · -- pa
    intro p k hp hk
    by_cases h : k = k0
    · subst h
      rw [T]
      by_cases h1 : p = p0
      · rw [h1, upd_eq', E0]
      · rw [upd_ne' _ _ _ _ h1, E _ _ (by omega), C.pa p k hp hk]
    · rw [N _ h, E _ _ (by omega), C.pa p k hp hk]
  · intro p s hp hs
    rw [N 6 (by omega), E _ _ (by omega), C.nm p s hp hs]
  · intro i hi
    rw [N 7 (by omega), E _ _ (by omega), C.th i hi]
  · intro i hi
    rw [N 8 (by omega), E _ _ (by omega), E _ _ (by omega), C.pw i hi]
  · rw [N 10 (by omega), E _ _ (by omega), C.c0 ]
  · rw [N 15 (by omega), E _ _ (by omega), C.c1 ]
  · rw [N 22 (by omega), E _ _ (by omega), C.c2 ]
  · intro s hs
    rw [E _ _ (by omega)] at hs
    rw [N 9 (by omega), E _ _ (by omega), C.a0 s hs]
  · intro s hs
    rw [E _ _ (by omega)] at hs
    rw [N 14 (by omega), E _ _ (by omega), C.a1 s hs]
  · intro s hs
    rw [E _ _ (by omega)] at hs
    rw [N 21 (by omega), E _ _ (by omega), C.a2 s hs]
  · intro s hs
    rw [E _ _ (by omega)] at hs
    rw [N 11 (by omega), E _ _ (by omega), C.nk s hs]
  · intro s hs
    rw [N 12 (by omega), E _ _ (by omega), E _ _ (by omega), C.gv s hs]
  · intro s hs
    rw [N 13 (by omega), E _ _ (by omega), E _ _ (by omega), C.it s hs]
  · intro s hs
    rw [E _ _ (by omega)] at hs
    rw [N 16 (by omega), E _ _ (by omega), C.uk s hs]
  · intro s hs
    rw [E _ _ (by omega)] at hs
    rw [N 17 (by omega), E _ _ (by omega), C.rn s hs]
  · intro s r hs hr
    rw [E _ _ (by omega)] at hs
    rw [E _ _ (by omega)] at hr
    have := B.2.2.2.2 s hs
    rw [N 18 (by omega), E _ _ (by omega), C.ri s r hs hr]
  · intro s r hs hr
    rw [E _ _ (by omega)] at hs
    rw [E _ _ (by omega)] at hr
    have := B.2.2.2.2 s hs
    rw [N 19 (by omega), E _ _ (by omega), C.ro s r hs hr]
  · intro s r hs hr
    rw [E _ _ (by omega)] at hs
    rw [E _ _ (by omega)] at hr
    have := B.2.2.2.2 s hs
    rw [N 20 (by omega), E _ _ (by omega), C.rm s r hs hr]
  · intro s hs
    rw [E _ _ (by omega)] at hs
    rw [N 23 (by omega), E _ _ (by omega), C.mk s hs]
  · intro s i hs hi
    rw [E _ _ (by omega)] at hs
    rw [N 24 (by omega), E _ _ (by omega), C.tg s i hs hi]
  · intro i hi
    rw [N 25 (by omega), E _ _ (by omega), E _ _ (by omega), C.sh i hi]
theorem ClsV_pow {w w' : ms} {v v' : vw} (C : ClsV w v) (B : Bd v) (p0 x : Nat) (hp0 : p0 < 16) (hx : x ≤ 1) (N : ∀ f, f ≠ 8 → w' f = w f) (T : ∀ i, i < 32 → hb (w' 8 0) i = if i = p0 then decide (v 0 p0 = 1 ∧ x = 1) else hb (w 8 0) i) (E : ∀ a j, ¬ (a = 7 ∧ j = p0) → v' a j = v a j) (E0 : v' 7 p0 = x) : ClsV w' v' := by
  have B0 := B.2.1
  have B1 := B.2.2.1
  have B2 := B.2.2.2.1
  refine ⟨?_, ?_, ?_, ?_, ?_, ?_, ?_, ?_, ?_, ?_, ?_, ?_, ?_, ?_, ?_, ?_, ?_, ?_, ?_, ?_, ?_⟩
  · intro p k hp hk
    rw [N _ (by omega), E _ _ (by omega), C.pa p k hp hk]
  · intro p s hp hs
    rw [N 6 (by omega), E _ _ (by omega), C.nm p s hp hs]
  · intro i hi
    rw [N 7 (by omega), E _ _ (by omega), C.th i hi]
  · -- pw
    intro i hi
    rw [T i hi, E 0 i (by omega)]
    by_cases h : i = p0
    · rw [if_pos h, h, E0]; simp [hp0]
    · rw [if_neg h, E 7 i (by omega), C.pw i hi]
  · rw [N 10 (by omega), E _ _ (by omega), C.c0 ]
  · rw [N 15 (by omega), E _ _ (by omega), C.c1 ]
  · rw [N 22 (by omega), E _ _ (by omega), C.c2 ]
  · intro s hs
    rw [E _ _ (by omega)] at hs
    rw [N 9 (by omega), E _ _ (by omega), C.a0 s hs]
  · intro s hs
    rw [E _ _ (by omega)] at hs
    rw [N 14 (by omega), E _ _ (by omega), C.a1 s hs]
  · intro s hs
    rw [E _ _ (by omega)] at hs
    rw [N 21 (by omega), E _ _ (by omega), C.a2 s hs]
  · intro s hs
    rw [E _ _ (by omega)] at hs
    rw [N 11 (by omega), E _ _ (by omega), C.nk s hs]
  · intro s hs
    rw [N 12 (by omega), E _ _ (by omega), E _ _ (by omega), C.gv s hs]
  · intro s hs
    rw [N 13 (by omega), E _ _ (by omega), E _ _ (by omega), C.it s hs]
  · intro s hs
    rw [E _ _ (by omega)] at hs
    rw [N 16 (by omega), E _ _ (by omega), C.uk s hs]
  · intro s hs
    rw [E _ _ (by omega)] at hs
    rw [N 17 (by omega), E _ _ (by omega), C.rn s hs]
  · intro s r hs hr
    rw [E _ _ (by omega)] at hs
    rw [E _ _ (by omega)] at hr
    have := B.2.2.2.2 s hs
    rw [N 18 (by omega), E _ _ (by omega), C.ri s r hs hr]
  · intro s r hs hr
    rw [E _ _ (by omega)] at hs
    rw [E _ _ (by omega)] at hr
    have := B.2.2.2.2 s hs
    rw [N 19 (by omega), E _ _ (by omega), C.ro s r hs hr]
  · intro s r hs hr
    rw [E _ _ (by omega)] at hs
    rw [E _ _ (by omega)] at hr
    have := B.2.2.2.2 s hs
    rw [N 20 (by omega), E _ _ (by omega), C.rm s r hs hr]
  · intro s hs
    rw [E _ _ (by omega)] at hs
    rw [N 23 (by omega), E _ _ (by omega), C.mk s hs]
  · intro s i hs hi
    rw [E _ _ (by omega)] at hs
    rw [N 24 (by omega), E _ _ (by omega), C.tg s i hs hi]
  · intro i hi
    rw [N 25 (by omega), E _ _ (by omega), E _ _ (by omega), C.sh i hi]
theorem ClsV_sh {w w' : ms} {v v' : vw} (C : ClsV w v) (B : Bd v) (x0 : Nat) (hx : x0 < v 12 0) (N : ∀ f, f ≠ 25 → w' f = w f) (T : ∀ i, i < 32 → hb (w' 25 0) i = if i = x0 then decide (v' 70 x0 = 1) else hb (w 25 0) i) (E : ∀ a j, ¬ (a = 70 ∧ j = x0) → v' a j = v a j) : ClsV w' v' := by
  have B0 := B.2.1
  have B1 := B.2.2.1
  have B2 := B.2.2.2.1
  refine ⟨?_, ?_, ?_, ?_, ?_, ?_, ?_, ?_, ?_, ?_, ?_, ?_, ?_, ?_, ?_, ?_, ?_, ?_, ?_, ?_, ?_⟩
  · intro p k hp hk
    rw [N _ (by omega), E _ _ (by omega), C.pa p k hp hk]
  · intro p s hp hs
    rw [N 6 (by omega), E _ _ (by omega), C.nm p s hp hs]
  · intro i hi
    rw [N 7 (by omega), E _ _ (by omega), C.th i hi]
  · intro i hi
    rw [N 8 (by omega), E _ _ (by omega), E _ _ (by omega), C.pw i hi]
  · rw [N 10 (by omega), E _ _ (by omega), C.c0 ]
  · rw [N 15 (by omega), E _ _ (by omega), C.c1 ]
  · rw [N 22 (by omega), E _ _ (by omega), C.c2 ]
  · intro s hs
    rw [E _ _ (by omega)] at hs
    rw [N 9 (by omega), E _ _ (by omega), C.a0 s hs]
  · intro s hs
    rw [E _ _ (by omega)] at hs
    rw [N 14 (by omega), E _ _ (by omega), C.a1 s hs]
  · intro s hs
    rw [E _ _ (by omega)] at hs
    rw [N 21 (by omega), E _ _ (by omega), C.a2 s hs]
  · intro s hs
    rw [E _ _ (by omega)] at hs
    rw [N 11 (by omega), E _ _ (by omega), C.nk s hs]
  · intro s hs
    rw [N 12 (by omega), E _ _ (by omega), E _ _ (by omega), C.gv s hs]
  · intro s hs
    rw [N 13 (by omega), E _ _ (by omega), E _ _ (by omega), C.it s hs]
  · intro s hs
    rw [E _ _ (by omega)] at hs
    rw [N 16 (by omega), E _ _ (by omega), C.uk s hs]
  · intro s hs
    rw [E _ _ (by omega)] at hs
    rw [N 17 (by omega), E _ _ (by omega), C.rn s hs]
  · intro s r hs hr
    rw [E _ _ (by omega)] at hs
    rw [E _ _ (by omega)] at hr
    have := B.2.2.2.2 s hs
    rw [N 18 (by omega), E _ _ (by omega), C.ri s r hs hr]
  · intro s r hs hr
    rw [E _ _ (by omega)] at hs
    rw [E _ _ (by omega)] at hr
    have := B.2.2.2.2 s hs
    rw [N 19 (by omega), E _ _ (by omega), C.ro s r hs hr]
  · intro s r hs hr
    rw [E _ _ (by omega)] at hs
    rw [E _ _ (by omega)] at hr
    have := B.2.2.2.2 s hs
    rw [N 20 (by omega), E _ _ (by omega), C.rm s r hs hr]
  · intro s hs
    rw [E _ _ (by omega)] at hs
    rw [N 23 (by omega), E _ _ (by omega), C.mk s hs]
  · intro s i hs hi
    rw [E _ _ (by omega)] at hs
    rw [N 24 (by omega), E _ _ (by omega), C.tg s i hs hi]
  · -- sh
    intro i hi
    rw [T i hi, E 12 0 (by omega)]
    by_cases h : i = x0
    · rw [if_pos h, h]; simp [hx]
    · rw [if_neg h, E 70 i (by omega), C.sh i hi]
theorem ClsV_tg {w w' : ms} {v v' : vw} (C : ClsV w v) (B : Bd v) (N : ∀ f, f ≠ 24 → w' f = w f) (E : ∀ a j, a ≠ 71 → v' a j = v a j) (T : ∀ s i, s < v 12 0 → i < 8 → w' 24 (8 * s + i) = nI (v' 71 (8 * s + i))) : ClsV w' v' := by
  have B0 := B.2.1
  have B1 := B.2.2.1
  have B2 := B.2.2.2.1
  refine ⟨?_, ?_, ?_, ?_, ?_, ?_, ?_, ?_, ?_, ?_, ?_, ?_, ?_, ?_, ?_, ?_, ?_, ?_, ?_, ?_, ?_⟩
  · intro p k hp hk
    rw [N _ (by omega), E _ _ (by omega), C.pa p k hp hk]
  · intro p s hp hs
    rw [N 6 (by omega), E _ _ (by omega), C.nm p s hp hs]
  · intro i hi
    rw [N 7 (by omega), E _ _ (by omega), C.th i hi]
  · intro i hi
    rw [N 8 (by omega), E _ _ (by omega), E _ _ (by omega), C.pw i hi]
  · rw [N 10 (by omega), E _ _ (by omega), C.c0 ]
  · rw [N 15 (by omega), E _ _ (by omega), C.c1 ]
  · rw [N 22 (by omega), E _ _ (by omega), C.c2 ]
  · intro s hs
    rw [E _ _ (by omega)] at hs
    rw [N 9 (by omega), E _ _ (by omega), C.a0 s hs]
  · intro s hs
    rw [E _ _ (by omega)] at hs
    rw [N 14 (by omega), E _ _ (by omega), C.a1 s hs]
  · intro s hs
    rw [E _ _ (by omega)] at hs
    rw [N 21 (by omega), E _ _ (by omega), C.a2 s hs]
  · intro s hs
    rw [E _ _ (by omega)] at hs
    rw [N 11 (by omega), E _ _ (by omega), C.nk s hs]
  · intro s hs
    rw [N 12 (by omega), E _ _ (by omega), E _ _ (by omega), C.gv s hs]
  · intro s hs
    rw [N 13 (by omega), E _ _ (by omega), E _ _ (by omega), C.it s hs]
  · intro s hs
    rw [E _ _ (by omega)] at hs
    rw [N 16 (by omega), E _ _ (by omega), C.uk s hs]
  · intro s hs
    rw [E _ _ (by omega)] at hs
    rw [N 17 (by omega), E _ _ (by omega), C.rn s hs]
  · intro s r hs hr
    rw [E _ _ (by omega)] at hs
    rw [E _ _ (by omega)] at hr
    have := B.2.2.2.2 s hs
    rw [N 18 (by omega), E _ _ (by omega), C.ri s r hs hr]
  · intro s r hs hr
    rw [E _ _ (by omega)] at hs
    rw [E _ _ (by omega)] at hr
    have := B.2.2.2.2 s hs
    rw [N 19 (by omega), E _ _ (by omega), C.ro s r hs hr]
  · intro s r hs hr
    rw [E _ _ (by omega)] at hs
    rw [E _ _ (by omega)] at hr
    have := B.2.2.2.2 s hs
    rw [N 20 (by omega), E _ _ (by omega), C.rm s r hs hr]
  · intro s hs
    rw [E _ _ (by omega)] at hs
    rw [N 23 (by omega), E _ _ (by omega), C.mk s hs]
  · -- tg
    intro s i hs hi
    rw [E _ _ (by omega)] at hs
    exact T s i hs hi
  · intro i hi
    rw [N 25 (by omega), E _ _ (by omega), E _ _ (by omega), C.sh i hi]
theorem ClsV_rg {w w' : ms} {v v' : vw} (C : ClsV w v) (B : Bd v) (x0 : Nat) (hx0 : x0 < v 11 0) (N : ∀ f, ¬ (17 ≤ f ∧ f ≤ 20) → w' f = w f) (E : ∀ a j, ¬ (a = 60 ∧ j = x0) ∧ ¬ (61 ≤ a ∧ a ≤ 63 ∧ 3 * x0 ≤ j ∧ j < 3 * x0 + 3) → v' a j = v a j) (F0 : ∀ j, j ≠ x0 → w' 17 j = w 17 j) (F1 : ∀ j, ¬ (3 * x0 ≤ j ∧ j < 3 * x0 + 3) → w' 18 j = w 18 j) (F2 : ∀ j, ¬ (3 * x0 ≤ j ∧ j < 3 * x0 + 3) → w' 19 j = w 19 j) (F3 : ∀ j, ¬ (3 * x0 ≤ j ∧ j < 3 * x0 + 3) → w' 20 j = w 20 j) (T : w' 17 x0 = nI (v' 60 x0)) (T1 : ∀ r, r < v' 60 x0 → w' 18 (3 * x0 + r) = nI (v' 61 (3 * x0 + r))) (T2 : ∀ r, r < v' 60 x0 → w' 19 (3 * x0 + r) = nI (v' 62 (3 * x0 + r))) (T3 : ∀ r, r < v' 60 x0 → w' 20 (3 * x0 + r) = nI (v' 63 (3 * x0 + r))) : ClsV w' v' := by
  have B0 := B.2.1
  have B1 := B.2.2.1
  have B2 := B.2.2.2.1
  refine ⟨?_, ?_, ?_, ?_, ?_, ?_, ?_, ?_, ?_, ?_, ?_, ?_, ?_, ?_, ?_, ?_, ?_, ?_, ?_, ?_, ?_⟩
  · intro p k hp hk
    rw [N _ (by omega), E _ _ (by omega), C.pa p k hp hk]
  · intro p s hp hs
    rw [N 6 (by omega), E _ _ (by omega), C.nm p s hp hs]
  · intro i hi
    rw [N 7 (by omega), E _ _ (by omega), C.th i hi]
  · intro i hi
    rw [N 8 (by omega), E _ _ (by omega), E _ _ (by omega), C.pw i hi]
  · rw [N 10 (by omega), E _ _ (by omega), C.c0 ]
  · rw [N 15 (by omega), E _ _ (by omega), C.c1 ]
  · rw [N 22 (by omega), E _ _ (by omega), C.c2 ]
  · intro s hs
    rw [E _ _ (by omega)] at hs
    rw [N 9 (by omega), E _ _ (by omega), C.a0 s hs]
  · intro s hs
    rw [E _ _ (by omega)] at hs
    rw [N 14 (by omega), E _ _ (by omega), C.a1 s hs]
  · intro s hs
    rw [E _ _ (by omega)] at hs
    rw [N 21 (by omega), E _ _ (by omega), C.a2 s hs]
  · intro s hs
    rw [E _ _ (by omega)] at hs
    rw [N 11 (by omega), E _ _ (by omega), C.nk s hs]
  · intro s hs
    rw [N 12 (by omega), E _ _ (by omega), E _ _ (by omega), C.gv s hs]
  · intro s hs
    rw [N 13 (by omega), E _ _ (by omega), E _ _ (by omega), C.it s hs]
  · intro s hs
    rw [E _ _ (by omega)] at hs
    rw [N 16 (by omega), E _ _ (by omega), C.uk s hs]
  · -- rn
    intro s hs
    rw [E _ _ (by omega)] at hs
    by_cases h : s = x0
    · rw [h]; exact T
    · rw [F0 s h, E _ _ (by omega), C.rn s hs]
  · -- ri
    intro s r hs hr
    rw [E _ _ (by omega)] at hs
    by_cases h : s = x0
    · rw [h] at hr ⊢; exact T1 r hr
    · rw [E _ _ (by omega)] at hr
      have := B.2.2.2.2 s hs
      rw [F1 (3 * s + r) (by omega), E _ _ (by omega), C.ri s r hs hr]
  · -- ro
    intro s r hs hr
    rw [E _ _ (by omega)] at hs
    by_cases h : s = x0
    · rw [h] at hr ⊢; exact T2 r hr
    · rw [E _ _ (by omega)] at hr
      have := B.2.2.2.2 s hs
      rw [F2 (3 * s + r) (by omega), E _ _ (by omega), C.ro s r hs hr]
  · -- rm
    intro s r hs hr
    rw [E _ _ (by omega)] at hs
    by_cases h : s = x0
    · rw [h] at hr ⊢; exact T3 r hr
    · rw [E _ _ (by omega)] at hr
      have := B.2.2.2.2 s hs
      rw [F3 (3 * s + r) (by omega), E _ _ (by omega), C.rm s r hs hr]
  · intro s hs
    rw [E _ _ (by omega)] at hs
    rw [N 23 (by omega), E _ _ (by omega), C.mk s hs]
  · intro s i hs hi
    rw [E _ _ (by omega)] at hs
    rw [N 24 (by omega), E _ _ (by omega), C.tg s i hs hi]
  · intro i hi
    rw [N 25 (by omega), E _ _ (by omega), E _ _ (by omega), C.sh i hi]
theorem ClsV_it {w w' : ms} {v v' : vw} (C : ClsV w v) (B : Bd v) (x0 : Nat) (hx0 : x0 < v 10 0) (N : ∀ f, f ≠ 13 → w' f = w f) (F : ∀ j, j ≠ x0 → w' 13 j = w 13 j) (T : w' 13 x0 = ini (v' 51 x0)) (E : ∀ a j, ¬ (a = 51 ∧ j = x0) → v' a j = v a j) : ClsV w' v' := by
  have B0 := B.2.1
  have B1 := B.2.2.1
  have B2 := B.2.2.2.1
  refine ⟨?_, ?_, ?_, ?_, ?_, ?_, ?_, ?_, ?_, ?_, ?_, ?_, ?_, ?_, ?_, ?_, ?_, ?_, ?_, ?_, ?_⟩
  · intro p k hp hk
    rw [N _ (by omega), E _ _ (by omega), C.pa p k hp hk]
  · intro p s hp hs
    rw [N 6 (by omega), E _ _ (by omega), C.nm p s hp hs]
  · intro i hi
    rw [N 7 (by omega), E _ _ (by omega), C.th i hi]
  · intro i hi
    rw [N 8 (by omega), E _ _ (by omega), E _ _ (by omega), C.pw i hi]
  · rw [N 10 (by omega), E _ _ (by omega), C.c0 ]
  · rw [N 15 (by omega), E _ _ (by omega), C.c1 ]
  · rw [N 22 (by omega), E _ _ (by omega), C.c2 ]
  · intro s hs
    rw [E _ _ (by omega)] at hs
    rw [N 9 (by omega), E _ _ (by omega), C.a0 s hs]
  · intro s hs
    rw [E _ _ (by omega)] at hs
    rw [N 14 (by omega), E _ _ (by omega), C.a1 s hs]
  · intro s hs
    rw [E _ _ (by omega)] at hs
    rw [N 21 (by omega), E _ _ (by omega), C.a2 s hs]
  · intro s hs
    rw [E _ _ (by omega)] at hs
    rw [N 11 (by omega), E _ _ (by omega), C.nk s hs]
  · intro s hs
    rw [N 12 (by omega), E _ _ (by omega), E _ _ (by omega), C.gv s hs]
  · -- it
    intro s hs
    rw [E 10 0 (by omega)]
    by_cases h : s = x0
    · rw [h, T, if_pos hx0]
    · rw [F s h, E 51 s (by omega), C.it s hs]
  · intro s hs
    rw [E _ _ (by omega)] at hs
    rw [N 16 (by omega), E _ _ (by omega), C.uk s hs]
  · intro s hs
    rw [E _ _ (by omega)] at hs
    rw [N 17 (by omega), E _ _ (by omega), C.rn s hs]
  · intro s r hs hr
    rw [E _ _ (by omega)] at hs
    rw [E _ _ (by omega)] at hr
    have := B.2.2.2.2 s hs
    rw [N 18 (by omega), E _ _ (by omega), C.ri s r hs hr]
  · intro s r hs hr
    rw [E _ _ (by omega)] at hs
    rw [E _ _ (by omega)] at hr
    have := B.2.2.2.2 s hs
    rw [N 19 (by omega), E _ _ (by omega), C.ro s r hs hr]
  · intro s r hs hr
    rw [E _ _ (by omega)] at hs
    rw [E _ _ (by omega)] at hr
    have := B.2.2.2.2 s hs
    rw [N 20 (by omega), E _ _ (by omega), C.rm s r hs hr]
  · intro s hs
    rw [E _ _ (by omega)] at hs
    rw [N 23 (by omega), E _ _ (by omega), C.mk s hs]
  · intro s i hs hi
    rw [E _ _ (by omega)] at hs
    rw [N 24 (by omega), E _ _ (by omega), C.tg s i hs hi]
  · intro i hi
    rw [N 25 (by omega), E _ _ (by omega), E _ _ (by omega), C.sh i hi]
theorem ClsV_th {w w' : ms} {v v' : vw} (C : ClsV w v) (B : Bd v) (N : ∀ f, f ≠ 7 → f ≠ 8 → w' f = w f) (E : ∀ a j, a ≠ 0 → v' a j = v a j) (T7 : ∀ i, i < 32 → hb (w' 7 0) i = decide (i < 16 ∧ v' 0 i = 1)) (T8 : ∀ i, i < 32 → hb (w' 8 0) i = decide (i < 16 ∧ v' 0 i = 1 ∧ v' 7 i = 1)) : ClsV w' v' := by
  have B0 := B.2.1
  have B1 := B.2.2.1
  have B2 := B.2.2.2.1
  refine ⟨?_, ?_, ?_, ?_, ?_, ?_, ?_, ?_, ?_, ?_, ?_, ?_, ?_, ?_, ?_, ?_, ?_, ?_, ?_, ?_, ?_⟩
  · intro p k hp hk
    rw [N _ (by omega) (by omega), E _ _ (by omega), C.pa p k hp hk]
  · intro p s hp hs
    rw [N 6 (by omega) (by omega), E _ _ (by omega), C.nm p s hp hs]
  · -- th
    exact T7
  · -- pw
    exact T8
  · rw [N 10 (by omega) (by omega), E _ _ (by omega), C.c0 ]
  · rw [N 15 (by omega) (by omega), E _ _ (by omega), C.c1 ]
  · rw [N 22 (by omega) (by omega), E _ _ (by omega), C.c2 ]
  · intro s hs
    rw [E _ _ (by omega)] at hs
    rw [N 9 (by omega) (by omega), E _ _ (by omega), C.a0 s hs]
  · intro s hs
    rw [E _ _ (by omega)] at hs
    rw [N 14 (by omega) (by omega), E _ _ (by omega), C.a1 s hs]
  · intro s hs
    rw [E _ _ (by omega)] at hs
    rw [N 21 (by omega) (by omega), E _ _ (by omega), C.a2 s hs]
  · intro s hs
    rw [E _ _ (by omega)] at hs
    rw [N 11 (by omega) (by omega), E _ _ (by omega), C.nk s hs]
  · intro s hs
    rw [N 12 (by omega) (by omega), E _ _ (by omega), E _ _ (by omega), C.gv s hs]
  · intro s hs
    rw [N 13 (by omega) (by omega), E _ _ (by omega), E _ _ (by omega), C.it s hs]
  · intro s hs
    rw [E _ _ (by omega)] at hs
    rw [N 16 (by omega) (by omega), E _ _ (by omega), C.uk s hs]
  · intro s hs
    rw [E _ _ (by omega)] at hs
    rw [N 17 (by omega) (by omega), E _ _ (by omega), C.rn s hs]
  · intro s r hs hr
    rw [E _ _ (by omega)] at hs
    rw [E _ _ (by omega)] at hr
    have := B.2.2.2.2 s hs
    rw [N 18 (by omega) (by omega), E _ _ (by omega), C.ri s r hs hr]
  · intro s r hs hr
    rw [E _ _ (by omega)] at hs
    rw [E _ _ (by omega)] at hr
    have := B.2.2.2.2 s hs
    rw [N 19 (by omega) (by omega), E _ _ (by omega), C.ro s r hs hr]
  · intro s r hs hr
    rw [E _ _ (by omega)] at hs
    rw [E _ _ (by omega)] at hr
    have := B.2.2.2.2 s hs
    rw [N 20 (by omega) (by omega), E _ _ (by omega), C.rm s r hs hr]
  · intro s hs
    rw [E _ _ (by omega)] at hs
    rw [N 23 (by omega) (by omega), E _ _ (by omega), C.mk s hs]
  · intro s i hs hi
    rw [E _ _ (by omega)] at hs
    rw [N 24 (by omega) (by omega), E _ _ (by omega), C.tg s i hs hi]
  · intro i hi
    rw [N 25 (by omega) (by omega), E _ _ (by omega), E _ _ (by omega), C.sh i hi]
theorem ClsV_bgn0 {w w' : ms} {v v' : vw} (C : ClsV w v) (B : Bd v) (par kp : Nat) (h1 : 1 ≤ v 10 0) (h8 : v 10 0 < 8) (EC : v' 10 0 = v 10 0 + 1) (EA : v' 20 (v 10 0) = par) (EK : v' 40 (v 10 0) = kp) (T0 : w' 10 0 = nI (v 10 0 + 1)) (TA : w' 9 (v 10 0) = nI par) (FA : ∀ j, j ≠ v 10 0 → w' 9 j = w 9 j) (TK : w' 11 (v 10 0) = nI kp) (FK : ∀ j, j ≠ v 10 0 → w' 11 j = w 11 j) (N : ∀ f, f ≠ 9 → f ≠ 10 → f ≠ 11 → w' f = w f) (E50 : v' 50 (v 10 0) = 1) (E51 : v' 51 (v 10 0) = 0) (E : ∀ a j, ¬ (a = 10 ∧ j = 0) ∧ ¬ ((a = 20 ∨ a = 30 ∨ a = 40 ∨ a = 50 ∨ a = 51) ∧ j = v 10 0) → v' a j = v a j) : ClsV w' v' := by
  have B0 := B.2.1
  have B1 := B.2.2.1
  have B2 := B.2.2.2.1
  refine ⟨?_, ?_, ?_, ?_, ?_, ?_, ?_, ?_, ?_, ?_, ?_, ?_, ?_, ?_, ?_, ?_, ?_, ?_, ?_, ?_, ?_⟩
  · intro p k hp hk
    rw [N _ (by omega) (by omega) (by omega), E _ _ (by omega), C.pa p k hp hk]
  · intro p s hp hs
    rw [N 6 (by omega) (by omega) (by omega), E _ _ (by omega), C.nm p s hp hs]
  · intro i hi
    rw [N 7 (by omega) (by omega) (by omega), E _ _ (by omega), C.th i hi]
  · intro i hi
    rw [N 8 (by omega) (by omega) (by omega), E _ _ (by omega), E _ _ (by omega), C.pw i hi]
  · -- c0
    rw [T0, show v' 10 0 = v 10 0 + 1 from EC]
  · rw [N 15 (by omega) (by omega) (by omega), E _ _ (by omega), C.c1 ]
  · rw [N 22 (by omega) (by omega) (by omega), E _ _ (by omega), C.c2 ]
  · -- a0
    intro s hs
    rw [EC] at hs
    by_cases h : s = v 10 0
    · rw [h, TA, EA, if_neg (by omega)]
    · rw [FA s h, E _ _ (by omega), C.a0 s (by omega)]
  · intro s hs
    rw [E _ _ (by omega)] at hs
    rw [N 14 (by omega) (by omega) (by omega), E _ _ (by omega), C.a1 s hs]
  · intro s hs
    rw [E _ _ (by omega)] at hs
    rw [N 21 (by omega) (by omega) (by omega), E _ _ (by omega), C.a2 s hs]
  · -- nk
    intro s hs
    rw [EC] at hs
    by_cases h : s = v 10 0
    · rw [h, TK, EK]
    · rw [FK s h, E _ _ (by omega), C.nk s (by omega)]
  · -- gv
    intro s hs
    rw [N 12 (by omega) (by omega) (by omega), EC, C.gv s hs]
    by_cases h : s = v 10 0
    · rw [h, if_neg (by omega), if_pos (by omega), E50]
    · by_cases h2 : s < v 10 0
      · rw [if_pos h2, if_pos (by omega), E _ _ (by omega)]
      · rw [if_neg h2, if_neg (by omega)]
  · -- it
    intro s hs
    rw [N 13 (by omega) (by omega) (by omega), EC, C.it s hs]
    by_cases h : s = v 10 0
    · rw [h, if_neg (by omega), if_pos (by omega), E51]
    · by_cases h2 : s < v 10 0
      · rw [if_pos h2, if_pos (by omega), E _ _ (by omega)]
      · rw [if_neg h2, if_neg (by omega)]
  · intro s hs
    rw [E _ _ (by omega)] at hs
    rw [N 16 (by omega) (by omega) (by omega), E _ _ (by omega), C.uk s hs]
  · intro s hs
    rw [E _ _ (by omega)] at hs
    rw [N 17 (by omega) (by omega) (by omega), E _ _ (by omega), C.rn s hs]
  · intro s r hs hr
    rw [E _ _ (by omega)] at hs
    rw [E _ _ (by omega)] at hr
    have := B.2.2.2.2 s hs
    rw [N 18 (by omega) (by omega) (by omega), E _ _ (by omega), C.ri s r hs hr]
  · intro s r hs hr
    rw [E _ _ (by omega)] at hs
    rw [E _ _ (by omega)] at hr
    have := B.2.2.2.2 s hs
    rw [N 19 (by omega) (by omega) (by omega), E _ _ (by omega), C.ro s r hs hr]
  · intro s r hs hr
    rw [E _ _ (by omega)] at hs
    rw [E _ _ (by omega)] at hr
    have := B.2.2.2.2 s hs
    rw [N 20 (by omega) (by omega) (by omega), E _ _ (by omega), C.rm s r hs hr]
  · intro s hs
    rw [E _ _ (by omega)] at hs
    rw [N 23 (by omega) (by omega) (by omega), E _ _ (by omega), C.mk s hs]
  · intro s i hs hi
    rw [E _ _ (by omega)] at hs
    rw [N 24 (by omega) (by omega) (by omega), E _ _ (by omega), C.tg s i hs hi]
  · intro i hi
    rw [N 25 (by omega) (by omega) (by omega), E _ _ (by omega), E _ _ (by omega), C.sh i hi]
theorem ClsV_bgn1 {w w' : ms} {v v' : vw} (C : ClsV w v) (B : Bd v) (par kp : Nat) (h1 : 1 ≤ v 11 0) (h8 : v 11 0 < 8) (EC : v' 11 0 = v 11 0 + 1) (EA : v' 21 (v 11 0) = par) (EK : v' 41 (v 11 0) = kp) (T0 : w' 15 0 = nI (v 11 0 + 1)) (TA : w' 14 (v 11 0) = nI par) (FA : ∀ j, j ≠ v 11 0 → w' 14 j = w 14 j) (TK : w' 16 (v 11 0) = nI kp) (FK : ∀ j, j ≠ v 11 0 → w' 16 j = w 16 j) (N : ∀ f, f ≠ 14 → f ≠ 15 → f ≠ 16 → f ≠ 17 → w' f = w f) (E60 : v' 60 (v 11 0) = 0) (T60 : w' 17 (v 11 0) = nI 0) (F60 : ∀ j, j ≠ v 11 0 → w' 17 j = w 17 j) (E : ∀ a j, ¬ (a = 11 ∧ j = 0) ∧ ¬ ((a = 21 ∨ a = 31 ∨ a = 41 ∨ a = 60) ∧ j = v 11 0) → v' a j = v a j) : ClsV w' v' := by
  have B0 := B.2.1
  have B1 := B.2.2.1
  have B2 := B.2.2.2.1
  refine ⟨?_, ?_, ?_, ?_, ?_, ?_, ?_, ?_, ?_, ?_, ?_, ?_, ?_, ?_, ?_, ?_, ?_, ?_, ?_, ?_, ?_⟩
  · intro p k hp hk
    rw [N _ (by omega) (by omega) (by omega) (by omega), E _ _ (by omega), C.pa p k hp hk]
  · intro p s hp hs
    rw [N 6 (by omega) (by omega) (by omega) (by omega), E _ _ (by omega), C.nm p s hp hs]
  · intro i hi
    rw [N 7 (by omega) (by omega) (by omega) (by omega), E _ _ (by omega), C.th i hi]
  · intro i hi
    rw [N 8 (by omega) (by omega) (by omega) (by omega), E _ _ (by omega), E _ _ (by omega), C.pw i hi]
  · rw [N 10 (by omega) (by omega) (by omega) (by omega), E _ _ (by omega), C.c0 ]
  · -- c1
    rw [T0, show v' 11 0 = v 11 0 + 1 from EC]
  · rw [N 22 (by omega) (by omega) (by omega) (by omega), E _ _ (by omega), C.c2 ]
  · intro s hs
    rw [E _ _ (by omega)] at hs
    rw [N 9 (by omega) (by omega) (by omega) (by omega), E _ _ (by omega), C.a0 s hs]
  · -- a1
    intro s hs
    rw [EC] at hs
    by_cases h : s = v 11 0
    · rw [h, TA, EA, if_neg (by omega)]
    · rw [FA s h, E _ _ (by omega), C.a1 s (by omega)]
  · intro s hs
    rw [E _ _ (by omega)] at hs
    rw [N 21 (by omega) (by omega) (by omega) (by omega), E _ _ (by omega), C.a2 s hs]
  · intro s hs
    rw [E _ _ (by omega)] at hs
    rw [N 11 (by omega) (by omega) (by omega) (by omega), E _ _ (by omega), C.nk s hs]
  · intro s hs
    rw [N 12 (by omega) (by omega) (by omega) (by omega), E _ _ (by omega), E _ _ (by omega), C.gv s hs]
  · intro s hs
    rw [N 13 (by omega) (by omega) (by omega) (by omega), E _ _ (by omega), E _ _ (by omega), C.it s hs]
  · -- uk
    intro s hs
    rw [EC] at hs
    by_cases h : s = v 11 0
    · rw [h, TK, EK]
    · rw [FK s h, E _ _ (by omega), C.uk s (by omega)]
  · -- rn
    intro s hs
    rw [EC] at hs
    by_cases h : s = v 11 0
    · rw [h, T60, E60]
    · rw [F60 s h, E _ _ (by omega), C.rn s (by omega)]
  · -- ri
    intro s r hs hr
    rw [EC] at hs
    by_cases h : s = v 11 0
    · rw [h, E60] at hr; omega
    · rw [E _ _ (by omega)] at hr
      rw [N 18 (by omega) (by omega) (by omega) (by omega), E _ _ (by omega), C.ri s r (by omega) hr]
  · -- ro
    intro s r hs hr
    rw [EC] at hs
    by_cases h : s = v 11 0
    · rw [h, E60] at hr; omega
    · rw [E _ _ (by omega)] at hr
      rw [N 19 (by omega) (by omega) (by omega) (by omega), E _ _ (by omega), C.ro s r (by omega) hr]
  · -- rm
    intro s r hs hr
    rw [EC] at hs
    by_cases h : s = v 11 0
    · rw [h, E60] at hr; omega
    · rw [E _ _ (by omega)] at hr
      rw [N 20 (by omega) (by omega) (by omega) (by omega), E _ _ (by omega), C.rm s r (by omega) hr]
  · intro s hs
    rw [E _ _ (by omega)] at hs
    rw [N 23 (by omega) (by omega) (by omega) (by omega), E _ _ (by omega), C.mk s hs]
  · intro s i hs hi
    rw [E _ _ (by omega)] at hs
    rw [N 24 (by omega) (by omega) (by omega) (by omega), E _ _ (by omega), C.tg s i hs hi]
  · intro i hi
    rw [N 25 (by omega) (by omega) (by omega) (by omega), E _ _ (by omega), E _ _ (by omega), C.sh i hi]
theorem ClsV_bgn2 {w w' : ms} {v v' : vw} (C : ClsV w v) (B : Bd v) (par kp : Nat) (h1 : 1 ≤ v 12 0) (h8 : v 12 0 < 8) (EC : v' 12 0 = v 12 0 + 1) (EA : v' 22 (v 12 0) = par) (EK : v' 42 (v 12 0) = kp) (T0 : w' 22 0 = nI (v 12 0 + 1)) (TA : w' 21 (v 12 0) = nI par) (FA : ∀ j, j ≠ v 12 0 → w' 21 j = w 21 j) (TK : w' 23 (v 12 0) = nI kp) (FK : ∀ j, j ≠ v 12 0 → w' 23 j = w 23 j) (N : ∀ f, f ≠ 21 → f ≠ 22 → f ≠ 23 → f ≠ 24 → w' f = w f) (E70 : v' 70 (v 12 0) = 0) (TT : ∀ i, i < 8 → w' 24 (8 * v 12 0 + i) = nI (v' 71 (8 * v 12 0 + i))) (FT : ∀ j, ¬ (8 * v 12 0 ≤ j ∧ j < 8 * v 12 0 + 8) → w' 24 j = w 24 j) (E : ∀ a j, ¬ (a = 12 ∧ j = 0) ∧ ¬ ((a = 22 ∨ a = 32 ∨ a = 42 ∨ a = 70) ∧ j = v 12 0) ∧ ¬ (a = 71 ∧ 8 * v 12 0 ≤ j ∧ j < 8 * v 12 0 + 8) → v' a j = v a j) : ClsV w' v' := by
  have B0 := B.2.1
  have B1 := B.2.2.1
  have B2 := B.2.2.2.1
  refine ⟨?_, ?_, ?_, ?_, ?_, ?_, ?_, ?_, ?_, ?_, ?_, ?_, ?_, ?_, ?_, ?_, ?_, ?_, ?_, ?_, ?_⟩
  · intro p k hp hk
    rw [N _ (by omega) (by omega) (by omega) (by omega), E _ _ (by omega), C.pa p k hp hk]
  · intro p s hp hs
    rw [N 6 (by omega) (by omega) (by omega) (by omega), E _ _ (by omega), C.nm p s hp hs]
  · intro i hi
    rw [N 7 (by omega) (by omega) (by omega) (by omega), E _ _ (by omega), C.th i hi]
  · intro i hi
    rw [N 8 (by omega) (by omega) (by omega) (by omega), E _ _ (by omega), E _ _ (by omega), C.pw i hi]
  · rw [N 10 (by omega) (by omega) (by omega) (by omega), E _ _ (by omega), C.c0 ]
  · rw [N 15 (by omega) (by omega) (by omega) (by omega), E _ _ (by omega), C.c1 ]
  · -- c2
    rw [T0, show v' 12 0 = v 12 0 + 1 from EC]
  · intro s hs
    rw [E _ _ (by omega)] at hs
    rw [N 9 (by omega) (by omega) (by omega) (by omega), E _ _ (by omega), C.a0 s hs]
  · intro s hs
    rw [E _ _ (by omega)] at hs
    rw [N 14 (by omega) (by omega) (by omega) (by omega), E _ _ (by omega), C.a1 s hs]
  · -- a2
    intro s hs
    rw [EC] at hs
    by_cases h : s = v 12 0
    · rw [h, TA, EA, if_neg (by omega)]
    · rw [FA s h, E _ _ (by omega), C.a2 s (by omega)]
  · intro s hs
    rw [E _ _ (by omega)] at hs
    rw [N 11 (by omega) (by omega) (by omega) (by omega), E _ _ (by omega), C.nk s hs]
  · intro s hs
    rw [N 12 (by omega) (by omega) (by omega) (by omega), E _ _ (by omega), E _ _ (by omega), C.gv s hs]
  · intro s hs
    rw [N 13 (by omega) (by omega) (by omega) (by omega), E _ _ (by omega), E _ _ (by omega), C.it s hs]
  · intro s hs
    rw [E _ _ (by omega)] at hs
    rw [N 16 (by omega) (by omega) (by omega) (by omega), E _ _ (by omega), C.uk s hs]
  · intro s hs
    rw [E _ _ (by omega)] at hs
    rw [N 17 (by omega) (by omega) (by omega) (by omega), E _ _ (by omega), C.rn s hs]
  · intro s r hs hr
    rw [E _ _ (by omega)] at hs
    rw [E _ _ (by omega)] at hr
    have := B.2.2.2.2 s hs
    rw [N 18 (by omega) (by omega) (by omega) (by omega), E _ _ (by omega), C.ri s r hs hr]
  · intro s r hs hr
    rw [E _ _ (by omega)] at hs
    rw [E _ _ (by omega)] at hr
    have := B.2.2.2.2 s hs
    rw [N 19 (by omega) (by omega) (by omega) (by omega), E _ _ (by omega), C.ro s r hs hr]
  · intro s r hs hr
    rw [E _ _ (by omega)] at hs
    rw [E _ _ (by omega)] at hr
    have := B.2.2.2.2 s hs
    rw [N 20 (by omega) (by omega) (by omega) (by omega), E _ _ (by omega), C.rm s r hs hr]
  · -- mk
    intro s hs
    rw [EC] at hs
    by_cases h : s = v 12 0
    · rw [h, TK, EK]
    · rw [FK s h, E _ _ (by omega), C.mk s (by omega)]
  · -- tg
    intro s i hs hi
    rw [EC] at hs
    by_cases h : s = v 12 0
    · rw [h]; exact TT i hi
    · rw [FT _ (by omega), E _ _ (by omega), C.tg s i (by omega) hi]
  · -- sh
    intro i hi
    rw [N 25 (by omega) (by omega) (by omega) (by omega), EC, C.sh i hi]
    by_cases h : i = v 12 0
    · rw [h, E70]; simp
    · rw [E 70 i (by omega)]
      apply decide_eq_decide.mpr
      omega
