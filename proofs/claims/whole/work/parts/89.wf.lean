/-! the deeds keep what always holds -/
theorem WFv_pr1 {v v' : vw} (W : WFv v) (p0 k0 : Nat) (E : ∀ a j, ¬ (3 ≤ a ∧ a ≤ 7 ∧ j = p0) → v' a j = v a j) (T : v' 3 p0 < v 11 0 ∧ v' 4 p0 < v 12 0 ∧ v' 5 p0 < v 10 0 ∧ v' 6 p0 < 100 ∧ v' 7 p0 ≤ 1) : WFv v' := by
  have c0 := W.c0
  have c1 := W.c1
  have c2 := W.c2
  refine ⟨?_, ?_, ?_, ?_, ?_, ?_, ?_, ?_, ?_, ?_, ?_, ?_, ?_⟩
  · -- th
    intro q hq
    have g := W.th q hq
    simp (discharger := omega) only [E]
    exact g
  · -- ct
    intro k hk
    have g := W.ct k hk
    simp (discharger := omega) only [E]
    exact g
  · -- pr
    intro q hq
    have g := W.pr q hq
    by_cases h : q = p0
    · subst h
      rw [E 1 _ (by omega), E 2 _ (by omega), E 10 _ (by omega), E 11 _ (by omega), E 12 _ (by omega)]
      exact ⟨g.1, g.2.1, T.1, T.2.1, T.2.2.1, T.2.2.2.1, T.2.2.2.2⟩
    · simp (discharger := omega) only [E]
      exact g
  · -- nm
    intro q s hq hs
    have g := W.nm q s hq hs
    simp (discharger := omega) only [E]
    exact g
  · -- up
    intro k s hk h1 hs
    rw [E _ _ (by omega)] at hs
    have hu := W.up k s hk h1 hs
    have hk8 := W.ct k hk
    have g := W.up k s hk h1 hs
    simp (discharger := omega) only [E]
    exact g
  · -- du
    intro k s hk h1 hs
    rw [E _ _ (by omega)] at hs
    have hu := W.up k s hk h1 hs
    have hk8 := W.ct k hk
    have g := W.du k s hk h1 hs
    simp (discharger := omega) only [E]
    exact g
  · -- d0
    intro k hk
    have g := W.d0 k hk
    simp (discharger := omega) only [E]
    exact g
  · -- d4
    intro k s hk hs
    rw [E _ _ (by omega)] at hs
    have hk8 := W.ct k hk
    have g := W.d4 k s hk hs
    simp (discharger := omega) only [E]
    exact g
  · -- nk
    intro s hs
    rw [E _ _ (by omega)] at hs
    have g := W.nk s hs
    simp (discharger := omega) only [E]
    exact g
  · -- uk
    intro s hs
    rw [E _ _ (by omega)] at hs
    have g := W.uk s hs
    simp (discharger := omega) only [E]
    exact g
  · -- rg
    intro s r hs hr
    rw [E _ _ (by omega)] at hs
    rw [E _ _ (by omega)] at hr
    have hu := W.uk s hs
    have g := W.rg s r hs hr
    simp (discharger := omega) only [E]
    exact g
  · -- mk
    intro s hs
    rw [E _ _ (by omega)] at hs
    have g := W.mk s hs
    simp (discharger := omega) only [E]
    exact g
  · -- tg
    intro s i hs hi
    rw [E _ _ (by omega)] at hs
    have g := W.tg s i hs hi
    simp (discharger := omega) only [E]
    exact g
theorem WFv_sh1 {v v' : vw} (W : WFv v) (x0 : Nat) (E : ∀ a j, ¬ (a = 70 ∧ j = x0) → v' a j = v a j) (T : v' 70 x0 ≤ 1) : WFv v' := by
  have c0 := W.c0
  have c1 := W.c1
  have c2 := W.c2
  refine ⟨?_, ?_, ?_, ?_, ?_, ?_, ?_, ?_, ?_, ?_, ?_, ?_, ?_⟩
  · -- th
    intro q hq
    have g := W.th q hq
    simp (discharger := omega) only [E]
    exact g
  · -- ct
    intro k hk
    have g := W.ct k hk
    simp (discharger := omega) only [E]
    exact g
  · -- pr
    intro q hq
    have g := W.pr q hq
    simp (discharger := omega) only [E]
    exact g
  · -- nm
    intro q s hq hs
    have g := W.nm q s hq hs
    simp (discharger := omega) only [E]
    exact g
  · -- up
    intro k s hk h1 hs
    rw [E _ _ (by omega)] at hs
    have hu := W.up k s hk h1 hs
    have hk8 := W.ct k hk
    have g := W.up k s hk h1 hs
    simp (discharger := omega) only [E]
    exact g
  · -- du
    intro k s hk h1 hs
    rw [E _ _ (by omega)] at hs
    have hu := W.up k s hk h1 hs
    have hk8 := W.ct k hk
    have g := W.du k s hk h1 hs
    simp (discharger := omega) only [E]
    exact g
  · -- d0
    intro k hk
    have g := W.d0 k hk
    simp (discharger := omega) only [E]
    exact g
  · -- d4
    intro k s hk hs
    rw [E _ _ (by omega)] at hs
    have hk8 := W.ct k hk
    have g := W.d4 k s hk hs
    simp (discharger := omega) only [E]
    exact g
  · -- nk
    intro s hs
    rw [E _ _ (by omega)] at hs
    have g := W.nk s hs
    simp (discharger := omega) only [E]
    exact g
  · -- uk
    intro s hs
    rw [E _ _ (by omega)] at hs
    have g := W.uk s hs
    simp (discharger := omega) only [E]
    exact g
  · -- rg
    intro s r hs hr
    rw [E _ _ (by omega)] at hs
    rw [E _ _ (by omega)] at hr
    have hu := W.uk s hs
    have g := W.rg s r hs hr
    simp (discharger := omega) only [E]
    exact g
  · -- mk
    intro s hs
    rw [E _ _ (by omega)] at hs
    have g := W.mk s hs
    by_cases h : s = x0
    · subst h
      rw [E 42 _ (by omega), E 11 _ (by omega)]
      exact ⟨g.1, T⟩
    · simp (discharger := omega) only [E]
      exact g
  · -- tg
    intro s i hs hi
    rw [E _ _ (by omega)] at hs
    have g := W.tg s i hs hi
    simp (discharger := omega) only [E]
    exact g
theorem WFv_tg1 {v v' : vw} (W : WFv v) (E : ∀ a j, ¬ (a = 71) → v' a j = v a j) (T : ∀ s i, s < v 12 0 → i < 8 → v' 71 (8 * s + i) < 100) : WFv v' := by
  have c0 := W.c0
  have c1 := W.c1
  have c2 := W.c2
  refine ⟨?_, ?_, ?_, ?_, ?_, ?_, ?_, ?_, ?_, ?_, ?_, ?_, ?_⟩
  · -- th
    intro q hq
    have g := W.th q hq
    simp (discharger := omega) only [E]
    exact g
  · -- ct
    intro k hk
    have g := W.ct k hk
    simp (discharger := omega) only [E]
    exact g
  · -- pr
    intro q hq
    have g := W.pr q hq
    simp (discharger := omega) only [E]
    exact g
  · -- nm
    intro q s hq hs
    have g := W.nm q s hq hs
    simp (discharger := omega) only [E]
    exact g
  · -- up
    intro k s hk h1 hs
    rw [E _ _ (by omega)] at hs
    have hu := W.up k s hk h1 hs
    have hk8 := W.ct k hk
    have g := W.up k s hk h1 hs
    simp (discharger := omega) only [E]
    exact g
  · -- du
    intro k s hk h1 hs
    rw [E _ _ (by omega)] at hs
    have hu := W.up k s hk h1 hs
    have hk8 := W.ct k hk
    have g := W.du k s hk h1 hs
    simp (discharger := omega) only [E]
    exact g
  · -- d0
    intro k hk
    have g := W.d0 k hk
    simp (discharger := omega) only [E]
    exact g
  · -- d4
    intro k s hk hs
    rw [E _ _ (by omega)] at hs
    have hk8 := W.ct k hk
    have g := W.d4 k s hk hs
    simp (discharger := omega) only [E]
    exact g
  · -- nk
    intro s hs
    rw [E _ _ (by omega)] at hs
    have g := W.nk s hs
    simp (discharger := omega) only [E]
    exact g
  · -- uk
    intro s hs
    rw [E _ _ (by omega)] at hs
    have g := W.uk s hs
    simp (discharger := omega) only [E]
    exact g
  · -- rg
    intro s r hs hr
    rw [E _ _ (by omega)] at hs
    rw [E _ _ (by omega)] at hr
    have hu := W.uk s hs
    have g := W.rg s r hs hr
    simp (discharger := omega) only [E]
    exact g
  · -- mk
    intro s hs
    rw [E _ _ (by omega)] at hs
    have g := W.mk s hs
    simp (discharger := omega) only [E]
    exact g
  · -- tg
    intro s i hs hi
    rw [E _ _ (by omega)] at hs
    exact T s i hs hi
theorem WFv_rg1 {v v' : vw} (W : WFv v) (x0 : Nat) (hx0 : x0 < v 11 0) (E : ∀ a j, ¬ (a = 60 ∧ j = x0) ∧ ¬ (61 ≤ a ∧ a ≤ 63 ∧ 3 * x0 ≤ j ∧ j < 3 * x0 + 3) → v' a j = v a j) (T : v' 60 x0 ≤ 3) (T1 : ∀ r, r < v' 60 x0 → 1 ≤ v' 63 (3 * x0 + r) ∧ v' 61 (3 * x0 + r) + v' 63 (3 * x0 + r) ≤ 100 ∧ v' 62 (3 * x0 + r) + v' 63 (3 * x0 + r) ≤ 100) : WFv v' := by
  have c0 := W.c0
  have c1 := W.c1
  have c2 := W.c2
  refine ⟨?_, ?_, ?_, ?_, ?_, ?_, ?_, ?_, ?_, ?_, ?_, ?_, ?_⟩
  · -- th
    intro q hq
    have g := W.th q hq
    simp (discharger := omega) only [E]
    exact g
  · -- ct
    intro k hk
    have g := W.ct k hk
    simp (discharger := omega) only [E]
    exact g
  · -- pr
    intro q hq
    have g := W.pr q hq
    simp (discharger := omega) only [E]
    exact g
  · -- nm
    intro q s hq hs
    have g := W.nm q s hq hs
    simp (discharger := omega) only [E]
    exact g
  · -- up
    intro k s hk h1 hs
    rw [E _ _ (by omega)] at hs
    have hu := W.up k s hk h1 hs
    have hk8 := W.ct k hk
    have g := W.up k s hk h1 hs
    simp (discharger := omega) only [E]
    exact g
  · -- du
    intro k s hk h1 hs
    rw [E _ _ (by omega)] at hs
    have hu := W.up k s hk h1 hs
    have hk8 := W.ct k hk
    have g := W.du k s hk h1 hs
    simp (discharger := omega) only [E]
    exact g
  · -- d0
    intro k hk
    have g := W.d0 k hk
    simp (discharger := omega) only [E]
    exact g
  · -- d4
    intro k s hk hs
    rw [E _ _ (by omega)] at hs
    have hk8 := W.ct k hk
    have g := W.d4 k s hk hs
    simp (discharger := omega) only [E]
    exact g
  · -- nk
    intro s hs
    rw [E _ _ (by omega)] at hs
    have g := W.nk s hs
    simp (discharger := omega) only [E]
    exact g
  · -- uk
    intro s hs
    rw [E _ _ (by omega)] at hs
    have g := W.uk s hs
    by_cases h : s = x0
    · subst h
      rw [E 41 _ (by omega)]
      exact ⟨g.1, T⟩
    · simp (discharger := omega) only [E]
      exact g
  · -- rg
    intro s r hs hr
    rw [E _ _ (by omega)] at hs
    by_cases h : s = x0
    · subst h
      exact T1 r hr
    · rw [E _ _ (by omega)] at hr
      have hu := W.uk s hs
      have g := W.rg s r hs hr
      simp (discharger := omega) only [E]
      exact g
  · -- mk
    intro s hs
    rw [E _ _ (by omega)] at hs
    have g := W.mk s hs
    simp (discharger := omega) only [E]
    exact g
  · -- tg
    intro s i hs hi
    rw [E _ _ (by omega)] at hs
    have g := W.tg s i hs hi
    simp (discharger := omega) only [E]
    exact g
theorem WFv_bgn {v : vw} (W : WFv v) (k par kp : Nat) (hk : k < 3) (hx : v (10 + k) 0 < 8) (hpar : par < v (10 + k) 0) (hd : v (30 + k) par < 4) (hkp1 : k = 1 → kp < 100) (hkp2 : k ≠ 1 → kp < v 11 0) : WFv (bgn v k par kp) := by
  have c0 := W.c0
  have c1 := W.c1
  have c2 := W.c2
  have E := bgn_ne v k par kp
  have h1 := (W.ct k hk).1
  have m0 : v 10 0 ≤ bgn v k par kp 10 0 := by
    by_cases h : k = 0
    · subst h; have := bgn_ct v 0 par kp; have e : v (10 + 0) 0 = v 10 0 := rfl; rw [show bgn v 0 par kp 10 0 = v (10 + 0) 0 + 1 from this]; omega
    · rw [E _ _ (by omega)]; omega
  have m1 : v 11 0 ≤ bgn v k par kp 11 0 := by
    by_cases h : k = 1
    · subst h; have := bgn_ct v 1 par kp; have e : v (10 + 1) 0 = v 11 0 := rfl; rw [show bgn v 1 par kp 11 0 = v (10 + 1) 0 + 1 from this]; omega
    · rw [E _ _ (by omega)]; omega
  have m2 : v 12 0 ≤ bgn v k par kp 12 0 := by
    by_cases h : k = 2
    · subst h; have := bgn_ct v 2 par kp; have e : v (10 + 2) 0 = v 12 0 := rfl; rw [show bgn v 2 par kp 12 0 = v (10 + 2) 0 + 1 from this]; omega
    · rw [E _ _ (by omega)]; omega
  refine ⟨?_, ?_, ?_, ?_, ?_, ?_, ?_, ?_, ?_, ?_, ?_, ?_, ?_⟩
  · intro q hq; rw [E _ _ (by omega)]; exact W.th q hq
  · intro j hj
    have g := W.ct j hj
    by_cases h : j = k
    · subst h; rw [bgn_ct]; omega
    · rw [E _ _ (by omega)]; exact g
  · intro q hq
    have g := W.pr q hq
    rw [E 1 _ (by omega), E 2 _ (by omega), E 3 _ (by omega), E 4 _ (by omega), E 5 _ (by omega), E 6 _ (by omega), E 7 _ (by omega)]
    exact ⟨g.1, by omega, by omega, by omega, by omega, g.2.2.2.2.2.1, g.2.2.2.2.2.2⟩
  · intro q s hq hs; rw [E _ _ (by omega)]; exact W.nm q s hq hs
  · intro j s hj hs1 hs
    by_cases h : j = k
    · subst h
      rw [bgn_ct] at hs
      by_cases h2 : s = v (10 + j) 0
      · rw [h2, bgn_ar]; exact hpar
      · rw [E _ _ (by omega)]; exact W.up j s hj hs1 (by omega)
    · rw [E _ _ (by omega)] at hs; rw [E _ _ (by omega)]; exact W.up j s hj hs1 hs
  · intro j s hj hs1 hs
    by_cases h : j = k
    · subst h
      rw [bgn_ct] at hs
      by_cases h2 : s = v (10 + j) 0
      · rw [h2, bgn_ar, bgn_dp, E (30 + j) par (by omega)]
      · have hu := W.up j s hj hs1 (by omega)
        rw [E (30 + j) s (by omega), E (20 + j) s (by omega), E (30 + j) _ (by omega)]; exact W.du j s hj hs1 (by omega)
    · rw [E _ _ (by omega)] at hs
      rw [E (30 + j) s (by omega), E (20 + j) s (by omega), E (30 + j) _ (by omega)]; exact W.du j s hj hs1 hs
  · intro j hj; rw [E _ _ (by omega)]; exact W.d0 j hj
  · intro j s hj hs
    by_cases h : j = k
    · subst h
      rw [bgn_ct] at hs
      by_cases h2 : s = v (10 + j) 0
      · rw [h2, bgn_dp]; omega
      · rw [E _ _ (by omega)]; exact W.d4 j s hj (by omega)
    · rw [E _ _ (by omega)] at hs; rw [E _ _ (by omega)]; exact W.d4 j s hj hs
  · intro s hs
    by_cases h : k = 0
    · subst h
      have ex : v (10 + 0) 0 = v 10 0 := rfl
      rw [show bgn v 0 par kp 10 0 = v 10 0 + 1 from bgn_ct v 0 par kp] at hs
      by_cases h2 : s = v 10 0
      · rw [h2, show bgn v 0 par kp 40 (v 10 0) = kp from bgn_kp v 0 par kp, bgn_50, bgn_51]
        have := hkp2 (by omega)
        exact ⟨by omega, by omega, by omega, by omega, fun _ => rfl⟩
      · have g := W.nk s (by omega)
        rw [E 40 s (by omega), E 50 s (by omega), E 51 s (by omega)]
        exact ⟨by omega, g.2⟩
    · rw [E _ _ (by omega)] at hs
      have g := W.nk s hs
      rw [E 40 s (by omega), E 50 s (by omega), E 51 s (by omega)]
      exact ⟨by omega, g.2⟩
  · intro s hs
    by_cases h : k = 1
    · subst h
      have ex : v (10 + 1) 0 = v 11 0 := rfl
      rw [show bgn v 1 par kp 11 0 = v 11 0 + 1 from bgn_ct v 1 par kp] at hs
      by_cases h2 : s = v 11 0
      · rw [h2, show bgn v 1 par kp 41 (v 11 0) = kp from bgn_kp v 1 par kp, bgn_60]
        exact ⟨hkp1 rfl, by omega⟩
      · rw [E 41 s (by omega), E 60 s (by omega)]; exact W.uk s (by omega)
    · rw [E _ _ (by omega)] at hs
      rw [E 41 s (by omega), E 60 s (by omega)]; exact W.uk s hs
  · intro s r hs hr
    by_cases h : k = 1
    · subst h
      have ex : v (10 + 1) 0 = v 11 0 := rfl
      rw [show bgn v 1 par kp 11 0 = v 11 0 + 1 from bgn_ct v 1 par kp] at hs
      by_cases h2 : s = v 11 0
      · rw [h2, bgn_60] at hr; omega
      · rw [E 60 s (by omega)] at hr
        rw [E 61 _ (by omega), E 62 _ (by omega), E 63 _ (by omega)]; exact W.rg s r (by omega) hr
    · rw [E _ _ (by omega)] at hs hr
      rw [E 61 _ (by omega), E 62 _ (by omega), E 63 _ (by omega)]; exact W.rg s r hs hr
  · intro s hs
    by_cases h : k = 2
    · subst h
      have ex : v (10 + 2) 0 = v 12 0 := rfl
      rw [show bgn v 2 par kp 12 0 = v 12 0 + 1 from bgn_ct v 2 par kp] at hs
      by_cases h2 : s = v 12 0
      · rw [h2, show bgn v 2 par kp 42 (v 12 0) = kp from bgn_kp v 2 par kp, bgn_70]
        have := hkp2 (by omega)
        exact ⟨by omega, by omega⟩
      · have g := W.mk s (by omega)
        rw [E 42 s (by omega), E 70 s (by omega)]; exact ⟨by omega, g.2⟩
    · rw [E _ _ (by omega)] at hs
      have g := W.mk s hs
      rw [E 42 s (by omega), E 70 s (by omega)]; exact ⟨by omega, g.2⟩
  · intro s i hs hi
    by_cases h : k = 2
    · subst h
      have ex : v (10 + 2) 0 = v 12 0 := rfl
      rw [show bgn v 2 par kp 12 0 = v 12 0 + 1 from bgn_ct v 2 par kp] at hs
      by_cases h2 : s = v 12 0
      · rw [h2, bgn_71 _ _ _ _ hi]; exact W.tg par i hpar hi
      · rw [E 71 _ (by omega)]; exact W.tg s i (by omega) hi
    · rw [E _ _ (by omega)] at hs
      rw [E 71 _ (by omega)]; exact W.tg s i hs hi
theorem SMv_irr {v v' : vw} (M : SMv v) (E : ∀ a, a = 0 ∨ a = 1 ∨ a = 2 ∨ a = 5 ∨ a = 8 ∨ a = 10 ∨ a = 20 ∨ a = 51 → v' a = v a) : SMv v' := by
  have hch : ch v' 0 = ch v 0 := by
    funext s
    unfold ch
    rw [show v' (20 + 0) = v (20 + 0) from E 20 (by omega)]
  have e0 := E 0 (by omega)
  have e1 := E 1 (by omega)
  have e2 := E 2 (by omega)
  have e5 := E 5 (by omega)
  have e8 := E 8 (by omega)
  have e10 := E 10 (by omega)
  have e20 := E 20 (by omega)
  have e51 := E 51 (by omega)
  refine ⟨?_, ?_, ?_, ?_, ?_, ?_, ?_⟩
  · rw [e0, e1, e2, e51]; exact M.t0
  · rw [e0, e2, e51]; exact M.il
  · rw [e0, e2, e51, e10]; exact M.ii
  · rw [e10, e20, e51]; exact M.bb
  · rw [e0, e1, e2, hch]; exact M.pp
  · rw [e0, e2, e5, hch]; exact M.cw
  · rw [e0, e2, e8, e10, hch]; exact M.nw
theorem cc_eq (par par' : Nat → Nat) : ∀ n s, (∀ t, t ≤ s → par' t = par t) → (∀ t, 1 ≤ t → t ≤ s → par t < t) → cc par' n s = cc par n s := by
  intro n
  induction n with
  | zero => intros; rfl
  | succ n ih =>
    intro s h1 h2
    unfold cc
    by_cases hs : s = 0
    · simp [hs]
    · have := h2 s (by omega) (Nat.le_refl s)
      rw [if_neg hs, if_neg hs, h1 s (Nat.le_refl s), ih (par s) (fun t ht => h1 t (by omega)) (fun t h3 h4 => h2 t h3 (by omega))]
theorem SMv_crN {v : vw} (W : WFv v) (M : SMv v) (p kp : Nat) (hp : p < 16) (hp1 : v 0 p = 1) (hx : v 10 0 < 8) : SMv (upv (bgn v 0 (v 2 p) kp) 5 p (v 10 0)) := by
  have c0 := W.c0
  have hq := W.pr p hp
  have E : ∀ a j, ¬ (a = 5 ∧ j = p) ∧ ¬ (a = 10 ∧ j = 0) ∧ ¬ ((a = 20 ∨ a = 30 ∨ a = 40 ∨ a = 50 ∨ a = 51) ∧ j = v 10 0) → upv (bgn v 0 (v 2 p) kp) 5 p (v 10 0) a j = v a j := by
    intro a j h
    have ex : v (10 + 0) 0 = v 10 0 := rfl
    rw [upv_ne _ _ _ _ _ _ h.1, bgn_ne _ _ _ _ _ _ (by omega)]
  have E10 : upv (bgn v 0 (v 2 p) kp) 5 p (v 10 0) 10 0 = v 10 0 + 1 := by
    rw [upv_ne _ _ _ _ _ _ (by omega)]; exact bgn_ct v 0 (v 2 p) kp
  have E20 : upv (bgn v 0 (v 2 p) kp) 5 p (v 10 0) 20 (v 10 0) = v 2 p := by
    rw [upv_ne _ _ _ _ _ _ (by omega)]; exact bgn_ar v 0 (v 2 p) kp
  have E51 : upv (bgn v 0 (v 2 p) kp) 5 p (v 10 0) 51 (v 10 0) = 0 := by
    rw [upv_ne _ _ _ _ _ _ (by omega)]; exact bgn_51 v (v 2 p) kp
  have E5 : upv (bgn v 0 (v 2 p) kp) 5 p (v 10 0) 5 p = v 10 0 := upv_eq _ _ _ _
  generalize upv (bgn v 0 (v 2 p) kp) 5 p (v 10 0) = v' at E E10 E20 E51 E5 ⊢
  have hch : ∀ s, s < v 10 0 → ch v' 0 s = ch v 0 s := by
    intro s hs
    unfold ch
    refine cc_eq _ _ 8 s (fun t ht => ?_) (fun t h1 h2 => W.up0 t h1 (by omega))
    exact E 20 t (by omega)
  refine ⟨?_, ?_, ?_, ?_, ?_, ?_, ?_⟩
  · rw [E 0 _ (by omega), E 2 _ (by omega), E 1 _ (by omega), E 51 _ (by omega)]; exact M.t0
  · intro q hq0 h0
    have g := W.pr q hq0
    rw [E 0 _ (by omega)] at h0
    rw [E 2 _ (by omega), E 51 _ (by omega)]; exact M.il q hq0 h0
  · intro s hs h2
    rw [E10] at hs
    by_cases h : s = v 10 0
    · rw [h, E51] at h2; omega
    · rw [E 51 s (by omega)] at h2 ⊢
      rw [E 0 _ (by omega), E 2 _ (by omega)]; exact M.ii s (by omega) h2
  · intro s h1 hs
    rw [E10] at hs
    by_cases h : s = v 10 0
    · have := M.il p hp hp1
      rw [h, E20, E 51 _ (by omega)]; omega
    · have hu := W.up0 s h1 (by omega)
      rw [E 20 s (by omega), E 51 _ (by omega)]; exact M.bb s h1 (by omega)
  · intro q hq0 h0
    have g := W.pr q hq0
    rw [E 0 _ (by omega)] at h0
    rw [E 1 _ (by omega), E 0 _ (by omega), E 2 _ (by omega), E 2 _ (by omega), hch _ (by omega)]; exact M.pp q hq0 h0
  · intro q hq0 h0
    have g := W.pr q hq0
    rw [E 0 _ (by omega)] at h0
    rw [E 2 _ (by omega)]
    by_cases h : q = p
    · rw [h, E5]
      have hs : ch v' 0 (v 10 0) = v 10 0 :: ch v' 0 (v 2 p) := by
        show v 10 0 :: (if v 10 0 = 0 then [] else cc (v' (20 + 0)) 7 (v' (20 + 0) (v 10 0))) = _
        rw [if_neg (by omega), show v' (20 + 0) (v 10 0) = v 2 p from E20]
        show _ = v 10 0 :: cc (v' (20 + 0)) 8 (v 2 p)
        rw [cc_irr _ 7 8 _ (by omega) (by omega)]
        intro t h2 h3
        rw [show v' (20 + 0) t = v 20 t from E 20 t (by omega)]
        exact W.up0 t h2 (by omega)
      rw [hs]
      exact List.mem_cons_of_mem _ (ch_self _ _ _)
    · rw [E 5 q (by omega), hch _ (by omega)]; exact M.cw q hq0 h0
  · intro q s hq0 hs h0 h8
    have g := W.pr q hq0
    rw [E 0 _ (by omega)] at h0
    rw [E 8 _ (by omega)] at h8
    rw [E10, E 2 _ (by omega), hch _ (by omega)]
    have := M.nw q s hq0 hs h0 h8
    exact ⟨by omega, this.2⟩
theorem SMv_frk {v : vw} (W : WFv v) (M : SMv v) (p c : Nat) (hp : p < 16) (hp1 : v 0 p = 1) (hc0 : v 0 c ≠ 1) (hd : v 51 (v 5 p) ≠ 1) : SMv (frk v p c) := by
  rw [← fkE_frk]
  have hq := W.pr p hp
  have hpc : p ≠ c := fun e => hc0 (e ▸ hp1)
  have t0 := M.t0
  have hc : c ≠ 0 := fun e => hc0 (e ▸ t0.1)
  have N : ∀ a q, a < 8 → q ≠ c → fkE v p c (ch v 0 (v 5 p)) a q = v a q := fun a q ha hqc => fkE_ne _ _ _ _ _ _ (by omega) (by omega) (by omega) (by omega)
  have N10 : fkE v p c (ch v 0 (v 5 p)) 10 0 = v 10 0 := fkE_ne _ _ _ _ _ _ (by omega) (by omega) (by omega) (by omega)
  have N20 : fkE v p c (ch v 0 (v 5 p)) 20 = v 20 := by funext j; exact fkE_ne _ _ _ _ _ _ (by omega) (by omega) (by omega) (by omega)
  have C : ∀ a, a < 8 → fkE v p c (ch v 0 (v 5 p)) a c = if a = 1 then p else if a = 2 then v 5 p else v a p := fun a ha => fkE_c _ _ _ _ _ ha
  have F : ∀ y, fkE v p c (ch v 0 (v 5 p)) 51 y = if y = v 5 p ∧ v 51 (v 5 p) = 0 then c + 2 else v 51 y := by
    intro y
    rw [fkE_51]
    by_cases h : y = v 5 p ∧ v 51 (v 5 p) = 0
    · rw [if_pos h, if_pos ⟨h.1, ch_self _ _ _, h.2⟩]
    · rw [if_neg h, if_neg (fun e => h ⟨e.1, e.2.2⟩)]
  have hch : ∀ s, ch (fkE v p c (ch v 0 (v 5 p))) 0 s = ch v 0 s := by
    intro s; unfold ch; rw [show fkE v p c (cc (v (20 + 0)) 8 (v 5 p)) (20 + 0) = v (20 + 0) from N20]
  refine ⟨?_, ?_, ?_, ?_, ?_, ?_, ?_⟩
  · rw [N 0 0 (by omega) hc.symm, N 2 0 (by omega) hc.symm, N 1 0 (by omega) hc.symm, F, if_neg]
    · exact t0
    · rintro ⟨e1, e2⟩; rw [← e1, t0.2.2.2] at e2; omega
  · intro q hq0 h0
    by_cases h : q = c
    · rw [h, C 2 (by omega), if_neg (by omega), if_pos rfl, F]
      by_cases h2 : v 51 (v 5 p) = 0
      · rw [if_pos ⟨rfl, h2⟩]; omega
      · rw [if_neg (fun e => h2 e.2)]; omega
    · rw [N 0 q (by omega) h] at h0
      have := M.il q hq0 h0
      rw [N 2 q (by omega) h, F]
      by_cases h2 : v 2 q = v 5 p ∧ v 51 (v 5 p) = 0
      · rw [if_pos h2]; omega
      · rw [if_neg h2]; exact this
  · intro s hs h2
    rw [N10] at hs
    rw [F] at h2 ⊢
    by_cases h3 : s = v 5 p ∧ v 51 (v 5 p) = 0
    · rw [if_pos h3, Nat.add_sub_cancel, C 0 (by omega), C 2 (by omega)]
      exact ⟨hp1, h3.1.symm⟩
    · rw [if_neg h3] at h2 ⊢
      have g := M.ii s hs h2
      have hne : v 51 s - 2 ≠ c := fun e => hc0 (e ▸ g.1)
      rw [N 0 _ (by omega) hne, N 2 _ (by omega) hne]; exact g
  · intro s h1 hs
    rw [N10] at hs
    rw [N20, F]
    by_cases h3 : v 20 s = v 5 p ∧ v 51 (v 5 p) = 0
    · rw [if_pos h3]; omega
    · rw [if_neg h3]; exact M.bb s h1 hs
  · intro q hq0 h0
    rw [hch]
    by_cases h : q = c
    · rw [h, C 1 (by omega), C 2 (by omega), if_pos rfl, if_neg (by omega), if_pos rfl, N 0 p (by omega) hpc, N 2 p (by omega) hpc]
      exact ⟨hp1, M.cw p hp hp1⟩
    · rw [N 0 q (by omega) h] at h0
      have g := M.pp q hq0 h0
      have hne : v 1 q ≠ c := fun e => hc0 (e ▸ g.1)
      rw [N 1 q (by omega) h, N 0 _ (by omega) hne, N 2 _ (by omega) hne, N 2 q (by omega) h]; exact g
  · intro q hq0 h0
    rw [hch]
    by_cases h : q = c
    · rw [h, C 2 (by omega), C 5 (by omega), if_neg (by omega), if_pos rfl, if_neg (by omega), if_neg (by omega)]
      exact ch_self _ _ _
    · rw [N 0 q (by omega) h] at h0
      rw [N 2 q (by omega) h, N 5 q (by omega) h]; exact M.cw q hq0 h0
  · intro q s hq0 hs h0 h8
    rw [N10, hch]
    by_cases h : q = c
    · rw [h, fkE_8 _ _ _ _ _ hs] at h8
      rw [h, C 2 (by omega), if_neg (by omega), if_pos rfl]
      by_cases h2 : s ∈ ch v 0 (v 5 p)
      · have := ch_lt W (k := 0) (by decide) (v 5 p) hq.2.2.2.2.1 h2
        exact ⟨by omega, h2⟩
      · rw [if_neg h2] at h8; omega
    · rw [N 0 q (by omega) h] at h0
      rw [fkE_8' _ _ _ _ _ (by omega)] at h8
      rw [N 2 q (by omega) h]; exact M.nw q s hq0 hs h0 h8
theorem SMv_end {v : vw} (W : WFv v) (M : SMv v) (p : Nat) (hp : p < 16) (hp1 : v 0 p = 1) (hp0 : p ≠ 0) : SMv (en2 v (fll v p) 16) := by
  have t0 := M.t0
  have hA := adp_fll W M p hp hp1
  have g0 := fll_0 W M p hp hp0
  have hbg : ∀ q, q < 16 → hb (fll v p) q = (decide (q = p) || (isIni v p && decide (v 0 q = 1) && inL v (v 2 q) (v 2 p))) := by
    intro q hq; rw [fll_hb v p q hp (by omega)]; simp [hq]
  have N : ∀ b j, b ≠ 0 → b ≠ 1 → b ≠ 51 → en2 v (fll v p) 16 b j = v b j := fun b j h0 h1 h2 => by rw [en2_ne _ _ _ _ _ h1, en1_ne _ _ _ _ _ h0 h2]
  have N0 : ∀ q, en2 v (fll v p) 16 0 q = if q < 16 ∧ hb (fll v p) q = true then 0 else v 0 q := fun q => by rw [en2_ne _ _ _ _ _ (by omega), en1_0]
  have N51 : ∀ s, s < v 10 0 → en2 v (fll v p) 16 51 s = if 2 ≤ v 51 s ∧ v 51 s - 2 < 16 ∧ hb (fll v p) (v 51 s - 2) = true then 1 else v 51 s := fun s hs => by rw [en2_ne _ _ _ _ _ (by omega), en1_51 _ _ _ _ hs]
  have hch : ∀ s, ch (en2 v (fll v p) 16) 0 s = ch v 0 s := by
    intro s; unfold ch; rw [show en2 v (fll v p) 16 (20 + 0) = v (20 + 0) from funext fun j => N 20 j (by omega) (by omega) (by omega)]
  -- who is left
  have left : ∀ q, q < 16 → en2 v (fll v p) 16 0 q = 1 → v 0 q = 1 ∧ hb (fll v p) q = false := by
    intro q hq h
    rw [N0] at h
    by_cases h1 : q < 16 ∧ hb (fll v p) q = true
    · rw [if_pos h1] at h; omega
    · rw [if_neg h1] at h
      refine ⟨h, ?_⟩
      cases h2 : hb (fll v p) q
      · rfl
      · exact absurd ⟨hq, h2⟩ h1
  have ini : ∀ s, s < v 10 0 → 2 ≤ en2 v (fll v p) 16 51 s → 2 ≤ v 51 s ∧ en2 v (fll v p) 16 51 s = v 51 s ∧ en2 v (fll v p) 16 0 (v 51 s - 2) = 1 ∧ v 2 (v 51 s - 2) = s := by
    intro s hs h2
    have g := W.nk s hs
    rw [N51 s hs] at h2 ⊢
    by_cases h3 : 2 ≤ v 51 s ∧ v 51 s - 2 < 16 ∧ hb (fll v p) (v 51 s - 2) = true
    · rw [if_pos h3] at h2; omega
    · rw [if_neg h3] at h2 ⊢
      have g2 := M.ii s hs h2
      refine ⟨h2, rfl, ?_, g2.2⟩
      rw [N0, if_neg (fun e => h3 ⟨h2, e⟩)]; exact g2.1
  refine ⟨?_, ?_, ?_, ?_, ?_, ?_, ?_⟩
  · have e51 : en2 v (fll v p) 16 51 0 = 2 := by
      rw [N51 0 (by have := W.c0; omega), t0.2.2.2, if_neg (by simp [g0])]
    rw [N0, if_neg (by simp [g0]), N 2 _ (by omega) (by omega) (by omega), en2_1, if_neg (by omega), e51]
    exact ⟨t0.1, t0.2.1, t0.2.2.1, rfl⟩
  · intro q hq h0
    obtain ⟨h1, h2⟩ := left q hq h0
    have gq := W.pr q hq
    have il := M.il q hq h1
    rw [N 2 _ (by omega) (by omega) (by omega), N51 _ gq.2.1, if_neg]
    · exact il
    · rintro ⟨-, d2, d3⟩
      have ii := M.ii (v 2 q) gq.2.1 il
      rw [hbg _ d2] at d3
      rw [hbg q hq] at h2
      cases hi : isIni v p
      · rw [hi] at d3
        have e : v 51 (v 2 q) - 2 = p := by simpa using d3
        have e2 : v 2 p = v 2 q := by rw [← e]; exact ii.2
        unfold isIni at hi
        rw [e2] at hi
        have : ¬ v 51 (v 2 q) = p + 2 := by simpa using hi
        omega
      · have hin : inL v (v 2 q) (v 2 p) = true := by
          by_cases h3 : v 51 (v 2 q) - 2 = p
          · have e2 : v 2 p = v 2 q := by rw [← h3]; exact ii.2
            unfold inL; rw [e2]; exact decide_eq_true (ch_self _ _ _)
          · rw [hi, ii.2] at d3
            simp [h3] at d3
            exact d3.2
        rw [hi, hin, h1] at h2
        simp at h2
  · intro s hs h2
    rw [N 10 _ (by omega) (by omega) (by omega)] at hs
    have g := ini s hs h2
    rw [g.2.1, N 2 _ (by omega) (by omega) (by omega)]
    exact ⟨g.2.2.1, g.2.2.2⟩
  · intro s h1 hs
    rw [N 10 _ (by omega) (by omega) (by omega)] at hs
    have hu := W.up0 s h1 hs
    have g := M.bb s h1 hs
    rw [N 20 _ (by omega) (by omega) (by omega), N51 _ (by omega)]
    by_cases h3 : 2 ≤ v 51 (v 20 s) ∧ v 51 (v 20 s) - 2 < 16 ∧ hb (fll v p) (v 51 (v 20 s) - 2) = true
    · rw [if_pos h3]; omega
    · rw [if_neg h3]; exact g
  · intro q hq h0
    obtain ⟨h1, h2⟩ := left q hq h0
    have g := M.pp q hq h1
    have gq := W.pr q hq
    rw [hch, N 2 q (by omega) (by omega) (by omega), en2_1]
    by_cases h3 : q < 16 ∧ en1 v (fll v p) 16 0 q = 1 ∧ hb (fll v p) (v 1 q) = true ∧ q ≠ 0
    · rw [if_pos h3]
      have hlt := hA q hq h3.2.1 h3.2.2.1 h3.2.2.2
      have gr := W.pr (v 1 q) gq.1
      have h5 : 2 ≤ en1 v (fll v p) 16 51 (v 2 (v 1 q)) := by
        unfold initV at hlt
        by_cases h6 : 2 ≤ en1 v (fll v p) 16 51 (v 2 (v 1 q))
        · exact h6
        · rw [if_neg h6] at hlt; omega
      have h7 : en2 v (fll v p) 16 51 (v 2 (v 1 q)) = en1 v (fll v p) 16 51 (v 2 (v 1 q)) := en2_ne _ _ _ _ _ (by omega)
      have h8 := ini (v 2 (v 1 q)) gr.2.1 (by rw [h7]; exact h5)
      have h9 : initV (en1 v (fll v p) 16) (v 2 (v 1 q)) = v 51 (v 2 (v 1 q)) - 2 := by
        unfold initV; rw [if_pos h5, ← h7, h8.2.1]
      rw [h9, N 2 _ (by omega) (by omega) (by omega), h8.2.2.2]
      exact ⟨h8.2.2.1, g.2⟩
    · rw [if_neg h3, N 2 _ (by omega) (by omega) (by omega)]
      refine ⟨?_, g.2⟩
      rw [N0, if_neg]
      · exact g.1
      · rintro ⟨-, d2⟩
        apply h3
        refine ⟨hq, ?_, d2, ?_⟩
        · rw [← en2_ne v (fll v p) 16 0 q (by omega)]; exact h0
        · intro e
          rw [e, t0.2.2.1, g0] at d2
          cases d2
  · intro q hq h0
    obtain ⟨h1, h2⟩ := left q hq h0
    rw [hch, N 2 _ (by omega) (by omega) (by omega), N 5 _ (by omega) (by omega) (by omega)]
    exact M.cw q hq h1
  · intro q s hq hs h0 h8
    obtain ⟨h1, h2⟩ := left q hq h0
    rw [N 8 _ (by omega) (by omega) (by omega)] at h8
    rw [hch, N 2 _ (by omega) (by omega) (by omega), N 10 _ (by omega) (by omega) (by omega)]
    exact M.nw q s hq hs h1 h8
theorem WFv_u {v : vw} (W : WFv v) (p k x : Nat) (hp : p < 16) (hk : 3 ≤ k ∧ k ≤ 7) (b3 : k = 3 → x < v 11 0) (b4 : k = 4 → x < v 12 0) (b5 : k = 5 → x < v 10 0) (b6 : k = 6 → x < 100) (b7 : k = 7 → x ≤ 1) : WFv (upv v k p x) := by
  have g := W.pr p hp
  have V : ∀ a, upv v k p x a p = if a = k then x else v a p := by
    intro a
    by_cases h : a = k
    · rw [h, if_pos rfl, upv_eq]
    · rw [if_neg h, upv_ne _ _ _ _ _ _ (by omega)]
  refine WFv_pr1 W p 0 (fun a j hj => upv_ne _ _ _ _ _ _ (by omega)) ?_
  rw [V 3, V 4, V 5, V 6, V 7]
  refine ⟨?_, ?_, ?_, ?_, ?_⟩
  · split
    · exact b3 (by omega)
    · exact g.2.2.1
  · split
    · exact b4 (by omega)
    · exact g.2.2.2.1
  · split
    · exact b5 (by omega)
    · exact g.2.2.2.2.1
  · split
    · exact b6 (by omega)
    · exact g.2.2.2.2.2.1
  · split
    · exact b7 (by omega)
    · exact g.2.2.2.2.2.2
/-- what is always so -/
def OK (v : vw) : Prop := WFv v ∧ SMv v
theorem OK_bec {v : vw} (K : OK v) (p id : Nat) (hp : p < 16) : OK (dBec v p id).2 := by
  obtain ⟨W, M⟩ := K
  have hq := W.pr p hp
  unfold dBec
  by_cases h : v 7 p = 1 ∧ id < 100 ∧ owl v (ch v 1 (v 3 p)) id ≠ 65534
  · rw [if_pos h]
    have hl := owl_lt W (v 3 p) hq.2.2.1 id (Or.inl h.2.1)
    refine ⟨WFv_u (WFv_u W p 6 _ hp (by omega) (fun e => by omega) (fun e => by omega) (fun e => by omega) (fun _ => by omega) (fun e => by omega)) p 7 _ hp (by omega) (fun e => by omega) (fun e => by omega) (fun e => by omega) (fun e => by omega) (fun _ => by split <;> omega), SMv_irr M (fun a ha => ?_)⟩
    · show upv (upv v 6 p _) 7 p _ a = _
      funext j; rw [upv_ne _ _ _ _ _ _ (by omega), upv_ne _ _ _ _ _ _ (by omega)]
  · rw [if_neg h]; exact ⟨W, M⟩
theorem OK_shr {v : vw} (K : OK v) (p : Nat) (hp : p < 16) : OK (dShr v p).2 := by
  obtain ⟨W, M⟩ := K
  unfold dShr
  by_cases h : ovp v p (v 42 (v 4 p)) = true
  · rw [if_pos h]
    refine ⟨WFv_sh1 W (v 4 p) (fun a j hj => upv_ne _ _ _ _ _ _ hj) ?_, SMv_irr M (fun a ha => ?_)⟩
    · show upv v 70 (v 4 p) _ 70 (v 4 p) ≤ 1
      rw [upv_eq]; omega
    · show upv v 70 _ _ a = _
      funext j; exact upv_ne _ _ _ _ _ _ (by omega)
  · rw [if_neg h]; exact ⟨W, M⟩
theorem OK_ent {v : vw} (K : OK v) (p q kd : Nat) (hp : p < 16) : OK (dEnt v p q kd).2 := by
  obtain ⟨W, M⟩ := K
  have g := W.pr p hp
  unfold dEnt
  by_cases h : kd < 3 ∧ q < 16 ∧ v 0 q = 1 ∧ cneV v p q kd = true
  · rw [if_pos h]
    have gq := W.pr q h.2.1
    by_cases k0 : kd = 0
    · rw [if_pos k0]
      refine ⟨WFv_u W p 5 _ hp (by omega) (fun e => by omega) (fun e => by omega) (fun _ => gq.2.1) (fun e => by omega) (fun e => by omega), ?_⟩
      · show SMv (upv v 5 p (v 2 q))
        have hin : v 2 p ∈ ch v 0 (v 2 q) := by
          have := h.2.2.2
          unfold cneV at this
          rw [k0] at this
          simp at this
          have h3 := this.2.1.1.2
          unfold inL at h3
          exact of_decide_eq_true h3
        have E : ∀ a, a ≠ 5 → upv v 5 p (v 2 q) a = v a := fun a ha => funext fun j => upv_ne _ _ _ _ _ _ (by omega)
        have hch : ch (upv v 5 p (v 2 q)) 0 = ch v 0 := by funext s; unfold ch; rw [E (20 + 0) (by omega)]
        refine ⟨?_, ?_, ?_, ?_, ?_, ?_, ?_⟩
        · rw [E 0 (by omega), E 1 (by omega), E 2 (by omega), E 51 (by omega)]; exact M.t0
        · rw [E 0 (by omega), E 2 (by omega), E 51 (by omega)]; exact M.il
        · rw [E 0 (by omega), E 2 (by omega), E 51 (by omega), E 10 (by omega)]; exact M.ii
        · rw [E 10 (by omega), E 20 (by omega), E 51 (by omega)]; exact M.bb
        · rw [E 0 (by omega), E 1 (by omega), E 2 (by omega), hch]; exact M.pp
        · intro r hr h0
          rw [E 0 (by omega)] at h0
          rw [E 2 (by omega), hch]
          by_cases h1 : r = p
          · rw [h1, upv_eq]; exact hin
          · rw [upv_ne _ _ _ _ _ _ (by omega)]; exact M.cw r hr h0
        · rw [E 0 (by omega), E 2 (by omega), E 8 (by omega), E 10 (by omega), hch]; exact M.nw
    · rw [if_neg k0]
      by_cases k1 : kd = 1
      · rw [if_pos k1]
        refine ⟨WFv_u (WFv_u W p 3 _ hp (by omega) (fun _ => gq.2.2.1) (fun e => by omega) (fun e => by omega) (fun e => by omega) (fun e => by omega)) p 7 _ hp (by omega) (fun e => by omega) (fun e => by omega) (fun e => by omega) (fun e => by omega) (fun _ => by omega), SMv_irr M (fun a ha => ?_)⟩
        · show upv (upv v 3 p _) 7 p _ a = _
          funext j; rw [upv_ne _ _ _ _ _ _ (by omega), upv_ne _ _ _ _ _ _ (by omega)]
      · rw [if_neg k1]
        refine ⟨WFv_u W p 4 _ hp (by omega) (fun e => by omega) (fun _ => gq.2.2.2.1) (fun e => by omega) (fun e => by omega) (fun e => by omega), SMv_irr M (fun a ha => ?_)⟩
        · show upv v 4 p _ a = _
          funext j; exact upv_ne _ _ _ _ _ _ (by omega)
  · rw [if_neg h]; exact ⟨W, M⟩
theorem OK_crU {v : vw} (K : OK v) (p : Nat) (hp : p < 16) : OK (dCrU v p).2 := by
  obtain ⟨W, M⟩ := K
  have g := W.pr p hp
  have c1 := W.c1
  have d := W.df1 (v 3 p) g.2.2.1
  unfold dCrU
  by_cases h : v 11 0 = 8 ∨ v 31 (v 3 p) = 4
  · rw [if_pos h]; exact ⟨W, M⟩
  · rw [if_neg h]
    have ex : v (10 + 1) 0 = v 11 0 := rfl
    have ex3 : v (30 + 1) (v 3 p) = v 31 (v 3 p) := rfl
    have Wb := WFv_bgn W 1 (v 3 p) (v 6 p) (by decide) (by omega) (by omega) (by omega) (fun _ => g.2.2.2.2.2.1) (fun e => absurd rfl e)
    have gb := Wb.pr p hp
    have e11 : bgn v 1 (v 3 p) (v 6 p) 11 0 = v 11 0 + 1 := bgn_ct v 1 (v 3 p) (v 6 p)
    refine ⟨WFv_u (WFv_u Wb p 3 _ hp (by omega) (fun _ => by omega) (fun e => by omega) (fun e => by omega) (fun e => by omega) (fun e => by omega)) p 7 _ hp (by omega) (fun e => by omega) (fun e => by omega) (fun e => by omega) (fun e => by omega) (fun _ => by omega), SMv_irr M (fun a ha => ?_)⟩
    · show upv (upv (bgn v 1 _ _) 3 p _) 7 p _ a = _
      funext j; rw [upv_ne _ _ _ _ _ _ (by omega), upv_ne _ _ _ _ _ _ (by omega), bgn_ne _ _ _ _ _ _ (by omega)]
theorem OK_crM {v : vw} (K : OK v) (p : Nat) (hp : p < 16) : OK (dCrM v p).2 := by
  obtain ⟨W, M⟩ := K
  have g := W.pr p hp
  have c2 := W.c2
  have d := W.df2 (v 4 p) g.2.2.2.1
  unfold dCrM
  by_cases h : v 7 p = 0 ∨ v 12 0 = 8 ∨ v 32 (v 4 p) = 4
  · rw [if_pos h]; exact ⟨W, M⟩
  · rw [if_neg h]
    have ex : v (10 + 2) 0 = v 12 0 := rfl
    have ex3 : v (30 + 2) (v 4 p) = v 32 (v 4 p) := rfl
    have Wb := WFv_bgn W 2 (v 4 p) (v 3 p) (by decide) (by omega) (by omega) (by omega) (fun e => by omega) (fun _ => g.2.2.1)
    have gb := Wb.pr p hp
    have e12 : bgn v 2 (v 4 p) (v 3 p) 12 0 = v 12 0 + 1 := bgn_ct v 2 (v 4 p) (v 3 p)
    refine ⟨WFv_u Wb p 4 _ hp (by omega) (fun e => by omega) (fun _ => by omega) (fun e => by omega) (fun e => by omega) (fun e => by omega), SMv_irr M (fun a ha => ?_)⟩
    · show upv (bgn v 2 _ _) 4 p _ a = _
      funext j; rw [upv_ne _ _ _ _ _ _ (by omega), bgn_ne _ _ _ _ _ _ (by omega)]
theorem OK_crN {v : vw} (K : OK v) (p : Nat) (hp : p < 16) (hp1 : v 0 p = 1) : OK (dCrN v p).2 := by
  obtain ⟨W, M⟩ := K
  have g := W.pr p hp
  have c0 := W.c0
  have d := W.df0 (v 2 p) g.2.1
  unfold dCrN
  by_cases h : v 7 p = 0 ∨ v 5 p ≠ v 2 p ∨ v 10 0 = 8 ∨ v 30 (v 2 p) = 4
  · rw [if_pos h]; exact ⟨W, M⟩
  · rw [if_neg h]
    have ex : v (10 + 0) 0 = v 10 0 := rfl
    have ex3 : v (30 + 0) (v 2 p) = v 30 (v 2 p) := rfl
    have Wb := WFv_bgn W 0 (v 2 p) (v 3 p) (by decide) (by omega) (by omega) (by omega) (fun e => by omega) (fun _ => g.2.2.1)
    have gb := Wb.pr p hp
    have e10 : bgn v 0 (v 2 p) (v 3 p) 10 0 = v 10 0 + 1 := bgn_ct v 0 (v 2 p) (v 3 p)
    exact ⟨WFv_u Wb p 5 _ hp (by omega) (fun e => by omega) (fun e => by omega) (fun _ => by omega) (fun e => by omega) (fun e => by omega), SMv_crN W M p (v 3 p) hp hp1 (by omega)⟩
theorem OK_mnt {v : vw} (K : OK v) (p i x : Nat) (hp : p < 16) : OK (dMnt v p i x).2 := by
  obtain ⟨W, M⟩ := K
  unfold dMnt
  by_cases h : i < 8 ∧ x < 100 ∧ ovp v p (v 42 (v 4 p)) = true ∧ v 71 (8 * v 4 p + i) ≠ x
  · rw [if_pos h]
    refine ⟨WFv_tg1 W (fun a j hj => ?_) (fun s y hs hy => ?_), SMv_irr M (fun a ha => ?_)⟩
    · show putv v _ i x _ a j = _
      unfold putv; rw [if_neg (by omega)]
    · show putv v _ i x _ 71 _ < _
      unfold putv
      have := W.tg s y hs hy
      split
      · exact h.2.1
      · exact this
    · show putv v _ i x _ a = _
      funext j; unfold putv; rw [if_neg (by omega)]
  · rw [if_neg h]; exact ⟨W, M⟩
theorem OK_map {v : vw} (K : OK v) (p x i o n : Nat) : OK (dMap v p x i o n).2 := by
  obtain ⟨W, M⟩ := K
  unfold dMap
  by_cases h : i < 100 ∧ o < 100 ∧ n < 100 ∧ x < 8 ∧ cmpV v p x i o n = true
  · rw [if_pos h]
    have hcv : x < v 11 0 ∧ x ≠ 0 ∧ 1 ≤ n ∧ i + n ≤ 100 ∧ o + n ≤ 100 ∧ v 60 x ≠ 3 := by
      have hC := h.2.2.2.2
      unfold cmpV at hC
      rw [Bool.and_eq_true, Bool.and_eq_true] at hC
      exact of_decide_eq_true hC.1.1
    have hu := W.uk x hcv.1
    have hrl := rpl_le v x i (v 60 x)
    generalize rpl v x i (v 60 x) = r at hrl ⊢
    have v60 : rin v x r i o n 60 x = v 60 x + 1 := by unfold rin; rw [if_pos ⟨rfl, rfl⟩]
    have at0 : ∀ a, 61 ≤ a → a ≤ 63 → rin v x r i o n a (3 * x + r) = if a = 61 then i else if a = 62 then o else n := by
      intro a h1 h2; unfold rin; rw [if_neg (by omega), if_pos ⟨h1, h2, rfl⟩]
    have atg : ∀ a q, 61 ≤ a → a ≤ 63 → r < q → q ≤ v 60 x → rin v x r i o n a (3 * x + q) = v a (3 * x + (q - 1)) := by
      intro a q h1 h2 h3 h4; unfold rin; rw [if_neg (by omega), if_neg (by omega), if_pos ⟨h1, h2, by omega, by omega⟩]; congr 1; omega
    have atl : ∀ a q, 61 ≤ a → a ≤ 63 → q < r → rin v x r i o n a (3 * x + q) = v a (3 * x + q) := by
      intro a q h1 h2 h3; unfold rin; rw [if_neg (by omega), if_neg (by omega), if_neg (by omega)]
    refine ⟨WFv_rg1 W x hcv.1 (fun a j hj => ?_) ?_ (fun q hq => ?_), SMv_irr M (fun a ha => ?_)⟩
    · show rin v x r i o n a j = _
      unfold rin
      rw [if_neg (by omega), if_neg (by omega), if_neg (by omega)]
    · show rin v x r i o n 60 x ≤ 3
      rw [v60]; omega
    · have hq : q < rin v x r i o n 60 x := hq
      rw [v60] at hq
      show 1 ≤ rin v x r i o n 63 _ ∧ rin v x r i o n 61 _ + rin v x r i o n 63 _ ≤ 100 ∧ rin v x r i o n 62 _ + rin v x r i o n 63 _ ≤ 100
      by_cases h1 : q = r
      · rw [h1, at0 61 (by omega) (by omega), at0 62 (by omega) (by omega), at0 63 (by omega) (by omega)]
        simp
        omega
      · by_cases h2 : q < r
        · rw [atl 61 q (by omega) (by omega) h2, atl 62 q (by omega) (by omega) h2, atl 63 q (by omega) (by omega) h2]
          exact W.rg x q hcv.1 (by omega)
        · rw [atg 61 q (by omega) (by omega) (by omega) (by omega), atg 62 q (by omega) (by omega) (by omega) (by omega), atg 63 q (by omega) (by omega) (by omega) (by omega)]
          exact W.rg x (q - 1) hcv.1 (by omega)
    · show rin v x r i o n a = _
      funext j
      unfold rin
      rw [if_neg (by omega), if_neg (by omega), if_neg (by omega)]
  · rw [if_neg h]; exact ⟨W, M⟩
theorem OK_frk {v : vw} (K : OK v) (p : Nat) (hp : p < 16) (hp1 : v 0 p = 1) : OK (dFrk v p).2 := by
  obtain ⟨W, M⟩ := K
  have hq := W.pr p hp
  unfold dFrk
  by_cases h : fkc v < 16 ∧ v 51 (v 5 p) ≠ 1 ∧ fkC v (v 5 p) (ch v 0 (v 5 p)) = true
  · rw [if_pos h]
    have hc0 : v 0 (fkc v) ≠ 1 := by
      have := ff_P (fun q => decide (v 0 q ≠ 1)) 16 0 (by have := h.1; unfold fkc at this; omega)
      exact of_decide_eq_true this
    refine ⟨?_, SMv_frk W M p (fkc v) hp hp1 hc0 h.2.1⟩
    show WFv (frk v p (fkc v))
    rw [← fkE_frk]
    exact WFv_fkE W p (fkc v) _ hp h.1 (fun y hy => by have := ch_lt W (k := 0) (by decide) (v 5 p) hq.2.2.2.2.1 hy; omega) (fun y hy => ch_beg W M (v 5 p) hq.2.2.2.2.1 y hy)
  · rw [if_neg h]; exact ⟨W, M⟩
theorem OK_end {v : vw} (K : OK v) (p : Nat) (hp : p < 16) (hp1 : v 0 p = 1) (hp0 : p ≠ 0) : OK (dEnd v p).2 := by
  obtain ⟨W, M⟩ := K
  exact ⟨WFv_en2 W _ (adp_fll W M p hp hp1) 16, SMv_end W M p hp hp1 hp0⟩
theorem OK_do {v : vw} (K : OK v) (w : Nat) (p a b c d : Int32) : OK (dDo v w p a b c d).2 := by
  unfold dDo
  by_cases h : cl p 16 < 16 ∧ v 0 (cl p 16) = 1
  · rw [if_pos h]
    generalize cl p 16 = q at h ⊢
    obtain ⟨hq, hq1⟩ := h
    by_cases w0 : w = 0
    · rw [if_pos w0]; exact OK_frk K q hq hq1
    rw [if_neg w0]
    by_cases w1 : w = 1
    · rw [if_pos w1]; exact OK_crU K q hq
    rw [if_neg w1]
    by_cases w2 : w = 2
    · rw [if_pos w2]; exact OK_crN K q hq hq1
    rw [if_neg w2]
    by_cases w3 : w = 3
    · rw [if_pos w3]; exact OK_crM K q hq
    rw [if_neg w3]
    by_cases w4 : w = 4
    · rw [if_pos w4]; exact OK_map K q _ _ _ _
    rw [if_neg w4]
    by_cases w5 : w = 5
    · rw [if_pos w5]; exact OK_bec K q _ hq
    rw [if_neg w5]
    by_cases w6 : w = 6
    · rw [if_pos w6]; exact OK_mnt K q _ _ hq
    rw [if_neg w6]
    by_cases w7 : w = 7
    · rw [if_pos w7]; exact OK_ent K q _ _ hq
    rw [if_neg w7]
    by_cases w8 : w = 8
    · rw [if_pos w8]
      by_cases h0 : q = 0
      · rw [if_pos h0]; exact K
      · rw [if_neg h0]; exact OK_end K q hq hq1 h0
    rw [if_neg w8]
    by_cases w9 : w = 9
    · rw [if_pos w9]
      by_cases hk : cl a 16 < 16 ∧ v 0 (cl a 16) = 1 ∧ cnkV v q (cl a 16) = true
      · rw [if_pos hk]
        refine OK_end K _ hk.1 hk.2.1 ?_
        intro e0
        have := hk.2.2
        unfold cnkV at this
        simp [e0] at this
      · rw [if_neg hk]; exact K
    rw [if_neg w9]
    exact OK_shr K q hq
  · rw [if_neg h]; exact K
