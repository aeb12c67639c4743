/-! the first state -/
def v0 : vw := fun a j => if (a = 0 ∨ a = 7 ∨ a = 8) ∧ j = 0 then 1 else if a = 10 ∨ a = 11 ∨ a = 12 ∨ a = 50 then 1 else if a = 51 ∧ j = 0 then 2 else 0
theorem hb_i1 (i : Nat) (hi : i < 32) : hb (1 : Int32) i = decide (i = 0) := hb_1 i hi
theorem ClsV_0 : ClsV W0 v0 := by
  refine ⟨?_, ?_, ?_, ?_, rfl, rfl, rfl, ?_, ?_, ?_, ?_, ?_, ?_, ?_, ?_, ?_, ?_, ?_, ?_, ?_, ?_⟩
  · intro p k hp hk
    have : k = 0 ∨ k = 1 ∨ k = 2 ∨ k = 3 ∨ k = 4 ∨ k = 5 := by omega
    rcases this with rfl | rfl | rfl | rfl | rfl | rfl <;> rfl
  · intro p s hp hs
    show upd (fun _ => (0 : Int32)) 0 1 (8 * p + s) = nI (v0 8 (8 * p + s))
    unfold upd v0
    by_cases h : 8 * p + s = 0
    · rw [if_pos h, if_pos ⟨by omega, h⟩]; rfl
    · rw [if_neg h, if_neg (by omega), if_neg (by omega), if_neg (by omega)]; rfl
  · intro i hi
    show hb (1 : Int32) i = _
    rw [hb_i1 i hi]
    apply decide_eq_decide.mpr
    unfold v0
    by_cases h : i = 0
    · simp [h]
    · simp [h]
  · intro i hi
    show hb (1 : Int32) i = _
    rw [hb_i1 i hi]
    apply decide_eq_decide.mpr
    unfold v0
    by_cases h : i = 0
    · simp [h]
    · simp [h]
  · intro s hs
    have : s = 0 := by have h : v0 10 0 = 1 := rfl; omega
    subst this; rfl
  · intro s hs
    have : s = 0 := by have h : v0 11 0 = 1 := rfl; omega
    subst this; rfl
  · intro s hs
    have : s = 0 := by have h : v0 12 0 = 1 := rfl; omega
    subst this; rfl
  · intro s hs; rfl
  · intro s hs
    show (if 0 ≤ s ∧ s < 8 then (1 : Int32) else 0) = _
    rw [if_pos (by omega)]
    by_cases h : s < v0 10 0
    · rw [if_pos h]; rfl
    · rw [if_neg h]; rfl
  · intro s hs
    show upd (fun q => if 0 ≤ q ∧ q < 8 then (-1 : Int32) else 0) 0 0 s = _
    unfold upd
    have h10 : v0 10 0 = 1 := rfl
    by_cases h : s = 0
    · subst h; rfl
    · rw [if_neg h, if_neg (show ¬ s < v0 10 0 by omega)]
      show (if 0 ≤ s ∧ s < 8 then (-1 : Int32) else 0) = _
      rw [if_pos (by omega)]; rfl
  · intro s hs; rfl
  · intro s hs
    have : s = 0 := by have h : v0 11 0 = 1 := rfl; omega
    subst this; rfl
  · intro s r hs hr
    have : s = 0 := by have h : v0 11 0 = 1 := rfl; omega
    subst this
    exact absurd hr (Nat.not_lt_zero _)
  · intro s r hs hr
    have : s = 0 := by have h : v0 11 0 = 1 := rfl; omega
    subst this
    exact absurd hr (Nat.not_lt_zero _)
  · intro s r hs hr
    have : s = 0 := by have h : v0 11 0 = 1 := rfl; omega
    subst this
    exact absurd hr (Nat.not_lt_zero _)
  · intro s hs; rfl
  · intro s i hs hi; rfl
  · intro i hi
    show hb (nI 0) i = _
    rw [hb_0]
    symm
    apply decide_eq_false
    rintro ⟨h1, h2⟩
    have : v0 70 i = 0 := by unfold v0; rw [if_neg (by omega), if_neg (by omega), if_neg (by omega)]
    omega
theorem v0_else (a j : Nat) (h1 : ¬ ((a = 0 ∨ a = 7 ∨ a = 8) ∧ j = 0)) (h2 : ¬ (a = 10 ∨ a = 11 ∨ a = 12 ∨ a = 50)) (h3 : ¬ (a = 51 ∧ j = 0)) : v0 a j = 0 := by
  unfold v0; rw [if_neg h1, if_neg h2, if_neg h3]
theorem v0_le1 (a j : Nat) (h3 : a ≠ 51) : v0 a j ≤ 1 := by
  unfold v0; split
  · omega
  · split
    · omega
    · rw [if_neg (by omega)]; omega
theorem v0_c (k : Nat) (hk : k < 3) : v0 (10 + k) 0 = 1 := by
  unfold v0; rw [if_neg (by omega), if_pos (by omega)]
theorem OK_0 : OK v0 := by
  have c0 : v0 10 0 = 1 := rfl
  have c1 : v0 11 0 = 1 := rfl
  have c2 : v0 12 0 = 1 := rfl
  have Z : ∀ a j, a ≠ 0 → a ≠ 7 → a ≠ 8 → a ≠ 10 → a ≠ 11 → a ≠ 12 → a ≠ 50 → a ≠ 51 → v0 a j = 0 := fun a j h0 h1 h2 h3 h4 h5 h6 h7 => v0_else a j (by omega) (by omega) (by omega)
  refine ⟨⟨?_, ?_, ?_, ?_, ?_, ?_, ?_, ?_, ?_, ?_, ?_, ?_, ?_⟩, ⟨?_, ?_, ?_, ?_, ?_, ?_, ?_⟩⟩
  · intro p hp; exact v0_le1 0 p (by omega)
  · intro k hk; rw [v0_c k hk]; omega
  · intro p hp
    have h7 := v0_le1 7 p (by omega)
    simp (discharger := omega) only [Z, c0, c1, c2]
    omega
  · intro p s hp hs
    have := v0_le1 8 (8 * p + s) (by omega)
    omega
  · intro k s hk h1 hs; rw [v0_c k hk] at hs; omega
  · intro k s hk h1 hs; rw [v0_c k hk] at hs; omega
  · intro k hk; exact Z _ _ (by omega) (by omega) (by omega) (by omega) (by omega) (by omega) (by omega) (by omega)
  · intro k s hk hs; rw [Z _ _ (by omega) (by omega) (by omega) (by omega) (by omega) (by omega) (by omega) (by omega)]; omega
  · intro s hs
    have : s = 0 := by omega
    subst this
    exact ⟨by decide, by decide, by decide, by decide, by decide⟩
  · intro s hs; rw [Z 41 s (by omega) (by omega) (by omega) (by omega) (by omega) (by omega) (by omega) (by omega), Z 60 s (by omega) (by omega) (by omega) (by omega) (by omega) (by omega) (by omega) (by omega)]; omega
  · intro s r hs hr; rw [Z 60 s (by omega) (by omega) (by omega) (by omega) (by omega) (by omega) (by omega) (by omega)] at hr; omega
  · intro s hs; rw [Z 42 s (by omega) (by omega) (by omega) (by omega) (by omega) (by omega) (by omega) (by omega), Z 70 s (by omega) (by omega) (by omega) (by omega) (by omega) (by omega) (by omega) (by omega)]; omega
  · intro s i hs hi; rw [Z 71 _ (by omega) (by omega) (by omega) (by omega) (by omega) (by omega) (by omega) (by omega)]; omega
  · exact ⟨rfl, rfl, rfl, rfl⟩
  · intro p hp h0
    rw [Z 2 p (by omega) (by omega) (by omega) (by omega) (by omega) (by omega) (by omega) (by omega)]
    decide
  · intro s hs h2
    have : s = 0 := by omega
    subst this
    exact ⟨rfl, rfl⟩
  · intro s h1 hs; omega
  · intro p hp h0
    rw [Z 1 p (by omega) (by omega) (by omega) (by omega) (by omega) (by omega) (by omega) (by omega), Z 2 p (by omega) (by omega) (by omega) (by omega) (by omega) (by omega) (by omega) (by omega)]
    exact ⟨rfl, ch_self _ _ _⟩
  · intro p hp h0
    rw [Z 2 p (by omega) (by omega) (by omega) (by omega) (by omega) (by omega) (by omega) (by omega), Z 5 p (by omega) (by omega) (by omega) (by omega) (by omega) (by omega) (by omega) (by omega)]
    exact ch_self _ _ _
  · intro p s hp hs h0 h8
    have hz : 8 * p + s = 0 := by
      by_cases h : 8 * p + s = 0
      · exact h
      · exfalso; apply h8; exact v0_else 8 _ (by omega) (by omega) (by omega)
    have e1 : p = 0 := by omega
    have e2 : s = 0 := by omega
    subst e1; subst e2
    exact ⟨by decide, ch_self _ _ _⟩
/-- the reference's first row -/
def lf0 : Nat → Int32 := fun j => if j = 0 ∨ j = 7 ∨ j = 128 ∨ j = 592 ∨ j = 593 ∨ j = 594 ∨ j = 259 ∨ j = 261 then nI 1 else if j = 256 ∨ j = 368 ∨ j = 480 then nm1 else nI 0
theorem RowV_0' {n : Nat → Int32} (E : ∀ j, j < 595 → n j = lf0 j) : RowV n v0 := by
  have c0 : v0 10 0 = 1 := rfl
  have c1 : v0 11 0 = 1 := rfl
  have c2 : v0 12 0 = 1 := rfl
  have Z : ∀ a j, a ≠ 0 → a ≠ 7 → a ≠ 8 → a ≠ 10 → a ≠ 11 → a ≠ 12 → a ≠ 50 → a ≠ 51 → v0 a j = 0 := fun a j h0 h1 h2 h3 h4 h5 h6 h7 => v0_else a j (by omega) (by omega) (by omega)
  refine ⟨?_, ?_, ?_, ?_, ?_, ?_, ?_, ?_, ?_, ?_, ?_, ?_, ?_, ?_, ?_⟩
  · intro p k hp hk
    rw [E _ (by omega)]
    unfold lf0 v0
    by_cases h : p = 0 ∧ (k = 0 ∨ k = 7)
    · rw [if_pos (by omega), if_pos (by omega)]
    · rw [if_neg (by omega), if_neg (by omega), if_neg (by omega), if_neg (by omega), if_neg (by omega)]
  · intro p s hp hs
    rw [E _ (by omega)]
    unfold lf0 v0
    by_cases h : 8 * p + s = 0
    · rw [if_pos (by omega), if_pos (by omega)]
    · rw [if_neg (by omega), if_neg (by omega), if_neg (by omega), if_neg (by omega), if_neg (by omega)]
  · intro k hk
    rw [E _ (by omega), v0_c k hk]
    unfold lf0; rw [if_pos (by omega)]
  · intro k s hk hs
    rw [v0_c k hk] at hs
    rw [E _ (by omega), if_pos (by omega)]
    unfold lf0; rw [if_neg (by omega), if_pos (by omega)]
  · intro k s hk hs
    rw [v0_c k hk] at hs
    rw [E _ (by omega), Z _ _ (by omega) (by omega) (by omega) (by omega) (by omega) (by omega) (by omega) (by omega)]
    unfold lf0; rw [if_neg (by omega), if_neg (by omega)]
  · intro k s hk hs
    rw [v0_c k hk] at hs
    rw [E _ (by omega), Z _ _ (by omega) (by omega) (by omega) (by omega) (by omega) (by omega) (by omega) (by omega)]
    unfold lf0; rw [if_neg (by omega), if_neg (by omega)]
  · intro s hs
    have : s = 0 := by omega
    subst this
    rw [E _ (by omega)]; rfl
  · intro s hs
    have : s = 0 := by omega
    subst this
    rw [E _ (by omega)]; rfl
  · intro s hs h
    have : s = 0 := by omega
    subst this
    rw [E _ (by omega)]; rfl
  · intro s hs
    have : s = 0 := by omega
    subst this
    rw [E _ (by omega)]; rfl
  · intro s r hs hr; rw [Z 60 s (by omega) (by omega) (by omega) (by omega) (by omega) (by omega) (by omega) (by omega)] at hr; omega
  · intro s r hs hr; rw [Z 60 s (by omega) (by omega) (by omega) (by omega) (by omega) (by omega) (by omega) (by omega)] at hr; omega
  · intro s r hs hr; rw [Z 60 s (by omega) (by omega) (by omega) (by omega) (by omega) (by omega) (by omega) (by omega)] at hr; omega
  · intro s hs
    have : s = 0 := by omega
    subst this
    rw [E _ (by omega)]; rfl
  · intro s i hs hi
    have : s = 0 := by omega
    subst this
    rw [E _ (by omega), Z 71 _ (by omega) (by omega) (by omega) (by omega) (by omega) (by omega) (by omega) (by omega)]
    unfold lf0; rw [if_neg (by omega), if_neg (by omega)]
theorem t_lay_l {h : jh} {m : Nat} {s : ms} (K : Nat → jh → Option (Unit × jh)) (L : Nat → Nat → Int32 → jh → Option (Unit × jh)) (hL : ∀ f, L (f + 1) = f_X13_layFirst_h2 K (L f)) : ∀ k i n f, i + k = 595 → k + 1 ≤ f → L f m (nI i) (pm h m (sw s 2 n)) = K m (pm h m (sw s 2 (zb n 0 i 595))) := by
  intro k
  induction k with
  | zero =>
    intro i n f hi hf
    obtain ⟨f, rfl⟩ : ∃ g, f = g + 1 := ⟨f - 1, by omega⟩
    rw [hL]
    unfold f_X13_layFirst_h2
    simp (discharger := omega) only [↓al_m, al_lit, al_add, al_mul, bd_some, pm_cV, pm_gR2, bn_0, bn_1, bn_jz, al_le]
    rw [if_pos (by omega), show i = 595 by omega, zb_end]
  | succ k ih =>
    intro i n f hi hf
    obtain ⟨f, rfl⟩ : ∃ g, f = g + 1 := ⟨f - 1, by omega⟩
    rw [hL]
    unfold f_X13_layFirst_h2
    simp (discharger := omega) only [↓al_m, al_lit, al_add, al_mul, bd_some, pm_cV, pm_gR2, bn_0, bn_1, bn_jz, al_le, wr2, st2_sw, sw_sw, sw_eq, r_processAt, r_spaceAt, r_numberAt]
    have := ih (i + 1) (upd n i (nI 0)) f (by omega) (by omega)
    have z := zb_step n 0 i 595 (by omega)
    rw [Nat.zero_add] at z
    rw [if_neg (by omega), this, z]
theorem t_lay2_l {h : jh} {m : Nat} {s : ms} (K : Nat → jh → Option (Unit × jh)) (L : Nat → Nat → Int32 → jh → Option (Unit × jh)) (hL : ∀ f, L (f + 1) = f_X13_layFirst_h48 K (L f)) : ∀ k i n f, i + k = 3 → k + 1 ≤ f → ∃ n', L f m (nI i) (pm h m (sw s 2 n)) = K m (pm h m (sw s 2 n')) ∧ ∀ j, n' j = if 592 + i ≤ j ∧ j < 595 then nI 1 else if (j = 256 ∧ i ≤ 0) ∨ (j = 368 ∧ i ≤ 1) ∨ (j = 480 ∧ i ≤ 2) then nm1 else n j := by
  intro k
  induction k with
  | zero =>
    intro i n f hi hf
    obtain ⟨f, rfl⟩ : ∃ g, f = g + 1 := ⟨f - 1, by omega⟩
    refine ⟨n, ?_, fun j => by rw [if_neg (by omega), if_neg (by omega)]⟩
    rw [hL]
    unfold f_X13_layFirst_h48
    simp (discharger := omega) only [↓al_m, al_lit, al_add, al_mul, bd_some, pm_cV, pm_gR2, bn_0, bn_1, bn_jz, al_le]
    rw [if_pos (by omega)]
  | succ k ih =>
    intro i n f hi hf
    obtain ⟨f, rfl⟩ : ∃ g, f = g + 1 := ⟨f - 1, by omega⟩
    obtain ⟨n', e, T⟩ := ih (i + 1) (upd (upd n (592 + i) (nI 1)) (256 + 14 * (8 * i + 0) + 0) nm1) f (by omega) (by omega)
    refine ⟨n', ?_, ?_⟩
    · rw [hL]
      unfold f_X13_layFirst_h48
      simp (discharger := omega) only [↓al_m, al_lit, al_add, al_mul, bd_some, pm_cV, pm_gR2, bn_0, bn_1, bn_jz, al_le, wr2, st2_sw, sw_sw, sw_eq, r_processAt, r_spaceAt, r_numberAt]
      rw [if_neg (by omega)]
      exact e
    · intro j
      rw [T j]
      unfold upd
      by_cases h1 : 592 + (i + 1) ≤ j ∧ j < 595
      · rw [if_pos h1, if_pos (by omega)]
      · rw [if_neg h1]
        by_cases h2 : j = 592 + i
        · rw [if_neg (by omega), if_neg (by omega), if_pos h2, if_pos (by omega)]
        · rw [if_neg (show ¬ (592 + i ≤ j ∧ j < 595) by omega)]
          by_cases h3 : j = 256 + 14 * (8 * i + 0) + 0
          · rw [if_pos h3]
            rw [if_neg (by omega), if_pos (by omega)]
          · rw [if_neg h3, if_neg h2]
            by_cases h4 : (j = 256 ∧ i + 1 ≤ 0) ∨ (j = 368 ∧ i + 1 ≤ 1) ∨ (j = 480 ∧ i + 1 ≤ 2)
            · rw [if_pos h4, if_pos (by omega)]
            · rw [if_neg h4, if_neg (by omega)]
theorem d_lay {h : jh} {m : Nat} {s : ms} : ∃ n', f_X13_layFirst m (pm h m s) = some ((), pm h m (sw s 2 n')) ∧ RowV n' v0 := by
  obtain ⟨f, hf⟩ := jfu_s
  have e1 := fun K => t_lay_l (h := h) (m := m) (s := s) K (jlp2 (f_X13_layFirst_h2 K)) (fun _ => rfl) 595 0 (s 2) jfu (by omega) (by omega)
  simp only [sw_id] at e1
  obtain ⟨n2, e2, T2⟩ := t_lay2_l (h := h) (m := m) (s := s) (fun y20 h19 =>
    gR h19 y20 11 2 fun v21 =>
    bd (f_X13_spaceAt 0 0 h19) fun v22 h23 =>
    sI h23 v21 (v22 + 3) 1 fun h24 =>
    gR h24 y20 11 2 fun v25 =>
    bd (f_X13_spaceAt 0 0 h24) fun v26 h27 =>
    sI h27 v25 (v26 + 5) 1 fun h28 =>
    some ((), h28)) (jlp2 (f_X13_layFirst_h48 _)) (fun _ => rfl) 3 0 (upd (upd (upd (zb (s 2) 0 0 595) 0 (nI 1)) 7 (nI 1)) 128 (nI 1)) jfu (by omega) (by omega)
  refine ⟨upd (upd n2 (256 + 14 * (8 * 0 + 0) + 3) (nI 1)) (256 + 14 * (8 * 0 + 0) + 5) (nI 1), ?_, ?_⟩
  · unfold f_X13_layFirst
    refine (e1 _).trans ?_
    simp (discharger := omega) only [pm_gR2, al_lit, wr2, st2_sw, sw_sw, sw_eq]
    refine e2.trans ?_
    simp (discharger := omega) only [↓al_m, al_lit, al_add, al_mul, bd_some, pm_cV, pm_gR2, bn_0, bn_1, bn_jz, wr2, st2_sw, sw_sw, sw_eq, r_processAt, r_spaceAt, r_numberAt]
  · apply RowV_0'
    intro j hj
    unfold upd
    unfold lf0
    by_cases h5 : j = 256 + 14 * (8 * 0 + 0) + 5
    · rw [if_pos h5, if_pos (by omega)]
    · rw [if_neg h5]
      by_cases h3 : j = 256 + 14 * (8 * 0 + 0) + 3
      · rw [if_pos h3, if_pos (by omega)]
      · rw [if_neg h3, T2 j]
        by_cases h6 : 592 + 0 ≤ j ∧ j < 595
        · rw [if_pos h6, if_pos (by omega)]
        · rw [if_neg h6]
          by_cases h7 : (j = 256 ∧ 0 ≤ 0) ∨ (j = 368 ∧ 0 ≤ 1) ∨ (j = 480 ∧ 0 ≤ 2)
          · rw [if_pos h7, if_neg (by omega), if_pos (by omega)]
          · rw [if_neg h7]
            unfold upd
            by_cases h8 : j = 128
            · rw [if_pos h8, if_pos (by omega)]
            · rw [if_neg h8]
              by_cases h9 : j = 7
              · rw [if_pos h9, if_pos (by omega)]
              · rw [if_neg h9]
                by_cases h10 : j = 0
                · rw [if_pos h10, if_pos (by omega)]
                · rw [if_neg h10, zb_in (by omega), if_neg (by omega), if_neg (by omega)]
