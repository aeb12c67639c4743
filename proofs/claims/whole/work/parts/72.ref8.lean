/-! the reference's deeds: end -/
theorem ch_tr {v : vw} (W : WFv v) {k a b : Nat} (hk : k < 3) : ∀ c, c < v (10 + k) 0 → b ∈ ch v k c → a ∈ ch v k b → a ∈ ch v k c := by
  intro c
  induction c using Nat.strongRecOn with
  | ind c ih =>
    intro hc h1 h2
    by_cases h0 : c = 0
    · subst h0
      rw [ch_0] at h1
      have : b = 0 := by simpa using h1
      rw [this] at h2; exact h2
    · have hu := W.up k c hk (by omega) hc
      rw [ch_s W hk (by omega) hc] at h1 ⊢
      rcases List.mem_cons.mp h1 with e | h3
      · rw [e, ch_s W hk (by omega) hc] at h2; exact h2
      · exact List.mem_cons_of_mem _ (ih _ hu (by omega) h3 h2)
theorem ch_self (v : vw) (k c : Nat) : c ∈ ch v k c := by unfold ch cc; exact List.mem_cons_self
theorem ch_lt {v : vw} (W : WFv v) {k a : Nat} (hk : k < 3) : ∀ c, c < v (10 + k) 0 → a ∈ ch v k c → a ≤ c := by
  intro c
  induction c using Nat.strongRecOn with
  | ind c ih =>
    intro hc h1
    by_cases h0 : c = 0
    · subst h0
      rw [ch_0] at h1
      have : a = 0 := by simpa using h1
      omega
    · have hu := W.up k c hk (by omega) hc
      rw [ch_s W hk (by omega) hc] at h1
      rcases List.mem_cons.mp h1 with e | h3
      · omega
      · have := ih _ hu (by omega) h3; omega
theorem fll_hb (v : vw) (p j : Nat) (hp : p < 16) (hj : j < 32) : hb (fll v p) j = (decide (j = p) || (decide (j < 16) && (isIni v p && decide (v 0 j = 1) && inL v (v 2 j) (v 2 p)))) := by
  unfold fll
  rw [bts_hb _ 16 0 _ (by omega) j hj, hb_bI p j (by omega) hj]
  by_cases h : j < 16 <;> simp [h]
/-- those of the bits gone, those below y -/
def en1 (v : vw) (a : Int32) (y : Nat) : vw := fun b j =>
  if b = 0 ∧ j < y ∧ hb a j = true then 0 else if b = 51 ∧ j < v 10 0 ∧ 2 ≤ v 51 j ∧ v 51 j - 2 < y ∧ hb a (v 51 j - 2) = true then 1 else v b j
theorem en1_ne (v : vw) (a : Int32) (y b j : Nat) (h0 : b ≠ 0) (h1 : b ≠ 51) : en1 v a y b j = v b j := by
  unfold en1; rw [if_neg (by omega), if_neg (by omega)]
theorem en1_0 (v : vw) (a : Int32) (y j : Nat) : en1 v a y 0 j = if j < y ∧ hb a j = true then 0 else v 0 j := by
  unfold en1
  by_cases h : j < y ∧ hb a j = true
  · rw [if_pos ⟨rfl, h⟩, if_pos h]
  · rw [if_neg (fun e => h e.2), if_neg h, if_neg (by omega)]
theorem en1_51 (v : vw) (a : Int32) (y j : Nat) (hj : j < v 10 0) : en1 v a y 51 j = if 2 ≤ v 51 j ∧ v 51 j - 2 < y ∧ hb a (v 51 j - 2) = true then 1 else v 51 j := by
  unfold en1
  rw [if_neg (by omega)]
  by_cases h : 2 ≤ v 51 j ∧ v 51 j - 2 < y ∧ hb a (v 51 j - 2) = true
  · rw [if_pos ⟨rfl, hj, h⟩, if_pos h]
  · rw [if_neg (fun e => h e.2.2), if_neg h]
theorem WFv_051 {v v' : vw} (W : WFv v) (E : ∀ b, b ≠ 0 → b ≠ 1 → b ≠ 51 → v' b = v b) (h0 : ∀ p, p < 16 → v' 0 p ≤ 1) (h1 : ∀ p, p < 16 → v' 1 p < 16) (h5 : ∀ x, x < v 10 0 → v' 51 x ≤ 17 ∧ (v' 51 x = 0 → v 50 x = 1)) : WFv v' := by
  refine ⟨h0, ?_, ?_, ?_, ?_, ?_, ?_, ?_, ?_, ?_, ?_, ?_, ?_⟩
  · intro k hk; rw [E _ (by omega) (by omega) (by omega)]; exact W.ct k hk
  · intro p hp
    have := W.pr p hp
    rw [E 2 (by omega) (by omega) (by omega), E 3 (by omega) (by omega) (by omega), E 4 (by omega) (by omega) (by omega), E 5 (by omega) (by omega) (by omega), E 6 (by omega) (by omega) (by omega), E 7 (by omega) (by omega) (by omega), E 10 (by omega) (by omega) (by omega), E 11 (by omega) (by omega) (by omega), E 12 (by omega) (by omega) (by omega)]
    exact ⟨h1 p hp, this.2⟩
  · rw [E 8 (by omega) (by omega) (by omega)]; exact W.nm
  · intro k s hk; rw [E _ (by omega) (by omega) (by omega), E (20 + k) (by omega) (by omega) (by omega)]; exact W.up k s hk
  · intro k s hk; rw [E _ (by omega) (by omega) (by omega), E (20 + k) (by omega) (by omega) (by omega), E (30 + k) (by omega) (by omega) (by omega)]; exact W.du k s hk
  · intro k hk; rw [E _ (by omega) (by omega) (by omega)]; exact W.d0 k hk
  · intro k s hk; rw [E _ (by omega) (by omega) (by omega), E (30 + k) (by omega) (by omega) (by omega)]; exact W.d4 k s hk
  · intro s
    rw [E 10 (by omega) (by omega) (by omega), E 40 (by omega) (by omega) (by omega), E 11 (by omega) (by omega) (by omega), E 50 (by omega) (by omega) (by omega)]
    intro hs
    have := W.nk s hs
    have g := h5 s hs
    exact ⟨this.1, this.2.1, this.2.2.1, g.1, g.2⟩
  · rw [E 11 (by omega) (by omega) (by omega), E 41 (by omega) (by omega) (by omega), E 60 (by omega) (by omega) (by omega)]; exact W.uk
  · rw [E 11 (by omega) (by omega) (by omega), E 61 (by omega) (by omega) (by omega), E 60 (by omega) (by omega) (by omega), E 62 (by omega) (by omega) (by omega), E 63 (by omega) (by omega) (by omega)]; exact W.rg
  · rw [E 12 (by omega) (by omega) (by omega), E 42 (by omega) (by omega) (by omega), E 11 (by omega) (by omega) (by omega), E 70 (by omega) (by omega) (by omega)]; exact W.mk
  · rw [E 12 (by omega) (by omega) (by omega), E 71 (by omega) (by omega) (by omega)]; exact W.tg
theorem WFv_en1 {v : vw} (W : WFv v) (a : Int32) (y : Nat) : WFv (en1 v a y) := by
  refine WFv_051 W (fun b h0 h1 h2 => by funext j; exact en1_ne v a y b j h0 h2) ?_ ?_ ?_
  · intro p hp
    have := W.th p hp
    rw [en1_0]
    by_cases h : p < y ∧ hb a p = true
    · rw [if_pos h]; omega
    · rw [if_neg h]; omega
  · intro p hp; rw [en1_ne _ _ _ _ _ (by omega) (by omega)]; exact (W.pr p hp).1
  · intro x hx
    have := W.nk x hx
    rw [en1_51 _ _ _ _ hx]
    by_cases h : 2 ≤ v 51 x ∧ v 51 x - 2 < y ∧ hb a (v 51 x - 2) = true
    · rw [if_pos h]; omega
    · rw [if_neg h]; omega
theorem en1_sA {v : vw} (M : SMv v) (a : Int32) (y : Nat) (hq : v 2 y < v 10 0) (hb1 : hb a y = true) (h51 : v 51 (v 2 y) = y + 2) : upv (upv (en1 v a y) 51 (v 2 y) 1) 0 y 0 = en1 v a (y + 1) := by
  funext b j
  unfold upv
  by_cases c1 : b = 0 ∧ j = y
  · rw [if_pos c1, c1.1, c1.2, en1_0, if_pos ⟨by omega, hb1⟩]
  · rw [if_neg c1]
    by_cases c2 : b = 51 ∧ j = v 2 y
    · rw [if_pos c2, c2.1, c2.2, en1_51 _ _ _ _ hq, h51, if_pos ⟨by omega, by omega, hb1⟩]
    · rw [if_neg c2]
      unfold en1
      by_cases c3 : b = 0
      · subst c3
        have : j ≠ y := fun e => c1 ⟨rfl, e⟩
        by_cases c4 : j < y ∧ hb a j = true
        · rw [if_pos ⟨rfl, c4⟩, if_pos ⟨rfl, by omega, c4.2⟩]
        · rw [if_neg (fun e => c4 e.2), if_neg (by omega), if_neg (fun e => c4 ⟨by omega, e.2.2⟩), if_neg (by omega)]
      · rw [if_neg (by omega), if_neg (show ¬ (b = 0 ∧ j < y + 1 ∧ hb a j = true) by omega)]
        by_cases c4 : b = 51 ∧ j < v 10 0 ∧ 2 ≤ v 51 j ∧ v 51 j - 2 < y ∧ hb a (v 51 j - 2) = true
        · rw [if_pos c4, if_pos ⟨c4.1, c4.2.1, c4.2.2.1, by omega, c4.2.2.2.2⟩]
        · rw [if_neg c4, if_neg]
          rintro ⟨d1, d2, d3, d4, d5⟩
          by_cases d6 : v 51 j - 2 = y
          · have := M.ii j d2 d3
            rw [d6] at this
            exact c2 ⟨d1, this.2.symm⟩
          · exact c4 ⟨d1, d2, d3, by omega, d5⟩
theorem en1_sB {v : vw} (M : SMv v) (a : Int32) (y : Nat) (hb1 : hb a y = true) (hi : ¬ isIni v y = true) : upv (en1 v a y) 0 y 0 = en1 v a (y + 1) := by
  funext b j
  unfold upv
  by_cases c1 : b = 0 ∧ j = y
  · rw [if_pos c1, c1.1, c1.2, en1_0, if_pos ⟨by omega, hb1⟩]
  · rw [if_neg c1]
    unfold en1
    by_cases c3 : b = 0
    · subst c3
      have : j ≠ y := fun e => c1 ⟨rfl, e⟩
      by_cases c4 : j < y ∧ hb a j = true
      · rw [if_pos ⟨rfl, c4⟩, if_pos ⟨rfl, by omega, c4.2⟩]
      · rw [if_neg (fun e => c4 e.2), if_neg (by omega), if_neg (fun e => c4 ⟨by omega, e.2.2⟩), if_neg (by omega)]
    · rw [if_neg (by omega), if_neg (show ¬ (b = 0 ∧ j < y + 1 ∧ hb a j = true) by omega)]
      by_cases c4 : b = 51 ∧ j < v 10 0 ∧ 2 ≤ v 51 j ∧ v 51 j - 2 < y ∧ hb a (v 51 j - 2) = true
      · rw [if_pos c4, if_pos ⟨c4.1, c4.2.1, c4.2.2.1, by omega, c4.2.2.2.2⟩]
      · rw [if_neg c4, if_neg]
        rintro ⟨d1, d2, d3, d4, d5⟩
        by_cases d6 : v 51 j - 2 = y
        · have := M.ii j d2 d3
          rw [d6] at this
          unfold isIni at hi
          rw [this.2] at hi
          exact hi (by simp; omega)
        · exact c4 ⟨d1, d2, d3, by omega, d5⟩
theorem en1_sC (v : vw) (a : Int32) (y : Nat) (hb1 : ¬ hb a y = true) : en1 v a (y + 1) = en1 v a y := by
  funext b j
  unfold en1
  by_cases c3 : b = 0
  · subst c3
    by_cases c4 : j < y ∧ hb a j = true
    · rw [if_pos ⟨rfl, by omega, c4.2⟩, if_pos ⟨rfl, c4⟩]
    · rw [if_neg (show ¬ (0 = 0 ∧ j < y ∧ hb a j = true) from fun e => c4 e.2), if_neg (show ¬ (0 = 0 ∧ j < y + 1 ∧ hb a j = true) by
        rintro ⟨_, d1, d2⟩
        by_cases d3 : j = y
        · rw [d3] at d2; exact hb1 d2
        · exact c4 ⟨by omega, d2⟩), if_neg (by omega), if_neg (by omega)]
  · rw [if_neg (show ¬ (b = 0 ∧ j < y + 1 ∧ hb a j = true) by omega), if_neg (show ¬ (b = 0 ∧ j < y ∧ hb a j = true) by omega)]
    by_cases c4 : b = 51 ∧ j < v 10 0 ∧ 2 ≤ v 51 j ∧ v 51 j - 2 < y ∧ hb a (v 51 j - 2) = true
    · rw [if_pos c4, if_pos ⟨c4.1, c4.2.1, c4.2.2.1, by omega, c4.2.2.2.2⟩]
    · rw [if_neg c4, if_neg]
      rintro ⟨d1, d2, d3, d4, d5⟩
      by_cases d6 : v 51 j - 2 = y
      · rw [d6] at d5; exact hb1 d5
      · exact c4 ⟨d1, d2, d3, by omega, d5⟩
theorem t_end_b51 {h : jh} {m : Nat} {s : ms} {n : Nat → Int32} (a : Int32) (y : Nat) (hy : y < 16) (K : Nat → Int32 → jh → Option (Int32 × jh)) (L : Nat → Int32 → Int32 → jh → Option (Int32 × jh)) : f_X13_endNow_b51 L K m a (nI y) (pm h m (sw s 2 n)) = L m a (nI (y + 1)) (pm h m (sw s 2 (upd n (8 * y + 0) (nI 0)))) := by
  unfold f_X13_endNow_b51
  simp (discharger := omega) only [↓al_m, al_lit, al_add, al_mul, bd_some, pm_cV, pm_gR2, bn_0, bn_1, bn_jz, wr2, st2_sw, sw_sw, sw_eq, r_processAt, r_spaceAt, r_numberAt]
theorem t_end_A {h : jh} {m : Nat} {s : ms} {n : Nat → Int32} {v : vw} (R : RowV n v) (W : WFv v) (a : Int32) (y : Nat) (hy : y < 16) (hb1 : hb a y = true) (hi : isIni v y = true) (K : Nat → Int32 → jh → Option (Int32 × jh)) (L : Nat → Int32 → Int32 → jh → Option (Int32 × jh)) : f_X13_endNow_h8 K L m a (nI y) (pm h m (sw s 2 n)) = L m a (nI (y + 1)) (pm h m (sw s 2 (upd (upd n (256 + 14 * (8 * 0 + v 2 y) + 4) nm1) (8 * y + 0) (nI 0)))) := by
  have hc := W.c0
  have hq := W.pr y hy
  have R' : RowV ((sw s 2 n) 2) v := by rw [sw_eq]; exact R
  unfold f_X13_endNow_h8
  simp (discharger := omega) only [↓al_m, al_lit, al_add, al_mul, bd_some, pm_cV, pm_gR2, bn_0, bn_1, bn_jz, al_le, ts_0]
  rw [if_neg (by omega), if_pos (by simp [hb1]), t_isInit R' W y hy, bd_some]
  rw [if_neg (by rw [bn_0]; simp [hi]), pm_gR2, pm_cV, v_of R' y 2 hy (by decide), bd_some, r_spaceAt, bd_some, al_add, wr2 _ _ _ _ _ _ (by omega), st2_sw, sw_sw, sw_eq, t_end_b51 _ _ hy]
theorem t_end_B {h : jh} {m : Nat} {s : ms} {n : Nat → Int32} {v : vw} (R : RowV n v) (W : WFv v) (a : Int32) (y : Nat) (hy : y < 16) (hb1 : hb a y = true) (hi : isIni v y = false) (K : Nat → Int32 → jh → Option (Int32 × jh)) (L : Nat → Int32 → Int32 → jh → Option (Int32 × jh)) : f_X13_endNow_h8 K L m a (nI y) (pm h m (sw s 2 n)) = L m a (nI (y + 1)) (pm h m (sw s 2 (upd n (8 * y + 0) (nI 0)))) := by
  have hc := W.c0
  have hq := W.pr y hy
  have R' : RowV ((sw s 2 n) 2) v := by rw [sw_eq]; exact R
  unfold f_X13_endNow_h8
  simp (discharger := omega) only [↓al_m, al_lit, al_add, al_mul, bd_some, pm_cV, pm_gR2, bn_0, bn_1, bn_jz, al_le, ts_0]
  rw [if_neg (by omega), if_pos (by simp [hb1]), t_isInit R' W y hy, bd_some]
  simp (discharger := omega) only [↓al_m, al_lit, al_add, al_mul, bd_some, pm_cV, pm_gR2, bn_0, bn_1, bn_jz, t_end_b51]
  rw [if_pos hi]
theorem t_end_C {h : jh} {m : Nat} {s : ms} {n : Nat → Int32} (a : Int32) (y : Nat) (hy : y < 16) (hb1 : hb a y = false) (K : Nat → Int32 → jh → Option (Int32 × jh)) (L : Nat → Int32 → Int32 → jh → Option (Int32 × jh)) : f_X13_endNow_h8 K L m a (nI y) (pm h m (sw s 2 n)) = L m a (nI (y + 1)) (pm h m (sw s 2 n)) := by
  unfold f_X13_endNow_h8
  simp (discharger := omega) only [↓al_m, al_lit, al_add, al_mul, bd_some, pm_cV, pm_gR2, bn_0, bn_1, bn_jz, al_le, ts_0, hb1, not_true_eq_false, if_false]
  rw [if_neg (by omega)]
theorem t_end1_l {h : jh} {m : Nat} {s : ms} {v : vw} (W : WFv v) (M : SMv v) (a : Int32) (K : Nat → Int32 → jh → Option (Int32 × jh)) (L : Nat → Nat → Int32 → Int32 → jh → Option (Int32 × jh)) (hL : ∀ f, L (f + 1) = f_X13_endNow_h8 K (L f)) : ∀ k y n f, y + k = 16 → k + 1 ≤ f → RowV n (en1 v a y) → ∃ n', L f m a (nI y) (pm h m (sw s 2 n)) = K m a (pm h m (sw s 2 n')) ∧ RowV n' (en1 v a 16) := by
  have hc := W.c0
  intro k
  induction k with
  | zero =>
    intro y n f hy hf R
    obtain ⟨f, rfl⟩ : ∃ g, f = g + 1 := ⟨f - 1, by omega⟩
    refine ⟨n, ?_, by rw [show 16 = y by omega]; exact R⟩
    rw [hL]
    unfold f_X13_endNow_h8
    simp (discharger := omega) only [↓al_m, al_lit, al_add, al_mul, bd_some, pm_cV, pm_gR2, bn_0, bn_1, bn_jz, al_le]
    rw [if_pos (by omega)]
  | succ k ih =>
    intro y n f hy hf R
    obtain ⟨f, rfl⟩ : ∃ g, f = g + 1 := ⟨f - 1, by omega⟩
    have W1 := WFv_en1 W a y
    have R' : RowV ((sw s 2 n) 2) (en1 v a y) := by rw [sw_eq]; exact R
    have hq := W.pr y (by omega)
    have e2 : en1 v a y 2 y = v 2 y := en1_ne _ _ _ _ _ (by omega) (by omega)
    have e10 : en1 v a y 10 0 = v 10 0 := en1_ne _ _ _ _ _ (by omega) (by omega)
    have ei : isIni (en1 v a y) y = isIni v y := by
      unfold isIni
      rw [e2, en1_51 _ _ _ _ hq.2.1]
      by_cases h1 : 2 ≤ v 51 (v 2 y) ∧ v 51 (v 2 y) - 2 < y ∧ hb a (v 51 (v 2 y) - 2) = true
      · rw [if_pos h1]
        have : ¬ v 51 (v 2 y) = y + 2 := by omega
        simp [this]
      · rw [if_neg h1]
    by_cases hb1 : hb a y = true
    · have step : ∀ n2, RowV n2 (en1 v a (y + 1)) → ∃ n', L f m a (nI (y + 1)) (pm h m (sw s 2 n2)) = K m a (pm h m (sw s 2 n')) ∧ RowV n' (en1 v a 16) := fun n2 R2 => ih (y + 1) n2 f (by omega) (by omega) R2
      by_cases hi : isIni v y = true
      · have h51 : v 51 (v 2 y) = y + 2 := by unfold isIni at hi; simpa using hi
        have R1 : RowV (upd n (256 + 14 * (8 * 0 + v 2 y) + 4) nm1) (upv (en1 v a y) 51 (v 2 y) 1) := by
          refine RowV_it R W1.bd (v 2 y) (by omega) ?_ (fun b j h => upv_ne _ _ _ _ _ _ h) (by rw [upv_eq]; omega) ?_ ?_
          · intro j hj; exact upd_ne' _ _ _ _ (by omega)
          · have e51 : en1 v a y 51 (v 2 y) = y + 2 := by rw [en1_51 _ _ _ _ hq.2.1, h51, if_neg (by omega)]
            rw [upd_ne' _ _ _ _ (by omega), R.bg (v 2 y) (by omega), e51, if_neg (by omega)]
          · rw [upd_eq', upv_eq]; rfl
        have B1 : Bd (upv (en1 v a y) 51 (v 2 y) 1) := Bd_eq W1.bd (upv_ne _ _ _ _ _ _ (by omega)) (upv_ne _ _ _ _ _ _ (by omega)) (upv_ne _ _ _ _ _ _ (by omega)) (by funext j; exact upv_ne _ _ _ _ _ _ (by omega))
        have R2 : RowV (upd (upd n (256 + 14 * (8 * 0 + v 2 y) + 4) nm1) (8 * y + 0) (nI 0)) (en1 v a (y + 1)) := by
          have := RowV_pr' R1 B1 y 0 0 (by omega) (by omega)
          have e := en1_sA M a y hq.2.1 hb1 h51
          rw [← e]; exact this
        obtain ⟨n', e, R3⟩ := step _ R2
        refine ⟨n', ?_, R3⟩
        rw [hL, t_end_A R W1 a y (by omega) hb1 (by rw [ei]; exact hi), e2]
        exact e
      · have hi' : isIni v y = false := by simpa using hi
        have R2 : RowV (upd n (8 * y + 0) (nI 0)) (en1 v a (y + 1)) := by
          have := RowV_pr' R W1.bd y 0 0 (by omega) (by omega)
          have e := en1_sB M a y hb1 hi
          rw [← e]; exact this
        obtain ⟨n', e, R3⟩ := step _ R2
        refine ⟨n', ?_, R3⟩
        rw [hL, t_end_B R W1 a y (by omega) hb1 (by rw [ei]; exact hi')]
        exact e
    · have e0 := en1_sC v a y hb1
      obtain ⟨n', e, R3⟩ := ih (y + 1) n f (by omega) (by omega) (by rw [e0]; exact R)
      refine ⟨n', ?_, R3⟩
      rw [hL, t_end_C a y (by omega) (by simpa using hb1)]
      exact e

/-- and those whose parent went have the init of its space for a parent -/
def en2 (v : vw) (a : Int32) (y : Nat) : vw := fun b j => if b = 1 ∧ j < y ∧ en1 v a 16 0 j = 1 ∧ hb a (v 1 j) = true ∧ j ≠ 0 then initV (en1 v a 16) (v 2 (v 1 j)) else en1 v a 16 b j
theorem en2_ne (v : vw) (a : Int32) (y b j : Nat) (h : b ≠ 1) : en2 v a y b j = en1 v a 16 b j := by unfold en2; rw [if_neg (by omega)]
/-- every one left whose parent went has an init there that lives -/
def adp (v : vw) (a : Int32) : Prop := ∀ j, j < 16 → en1 v a 16 0 j = 1 → hb a (v 1 j) = true → j ≠ 0 → initV (en1 v a 16) (v 2 (v 1 j)) < 16
theorem en2_1 (v : vw) (a : Int32) (y j : Nat) : en2 v a y 1 j = if j < y ∧ en1 v a 16 0 j = 1 ∧ hb a (v 1 j) = true ∧ j ≠ 0 then initV (en1 v a 16) (v 2 (v 1 j)) else v 1 j := by
  unfold en2
  by_cases h : j < y ∧ en1 v a 16 0 j = 1 ∧ hb a (v 1 j) = true ∧ j ≠ 0
  · rw [if_pos ⟨rfl, h⟩, if_pos h]
  · rw [if_neg (fun e => h e.2), if_neg h, en1_ne _ _ _ _ _ (by omega) (by omega)]
theorem WFv_en2 {v : vw} (W : WFv v) (a : Int32) (hA : adp v a) (y : Nat) : WFv (en2 v a y) := by
  have W1 := WFv_en1 W a 16
  refine WFv_051 W1 (fun b h0 h1 h2 => by funext j; exact en2_ne v a y b j h1) ?_ ?_ ?_
  · intro p hp; rw [en2_ne _ _ _ _ _ (by omega)]; exact W1.th p hp
  · intro p hp
    rw [en2_1]
    by_cases h : p < y ∧ en1 v a 16 0 p = 1 ∧ hb a (v 1 p) = true ∧ p ≠ 0
    · rw [if_pos h]; exact hA p hp h.2.1 h.2.2.1 h.2.2.2
    · rw [if_neg h]; exact (W.pr p hp).1
  · intro x hx
    have := W1.nk x hx
    rw [en2_ne _ _ _ _ _ (by omega)]
    exact ⟨this.2.2.2.1, this.2.2.2.2⟩
theorem t_end2_l {h : jh} {m : Nat} {s : ms} {v : vw} (W : WFv v) (a : Int32) (hA : adp v a) (L : Nat → Nat → Int32 → Int32 → jh → Option (Int32 × jh)) (hL : ∀ f, L (f + 1) = f_X13_endNow_h70 (fun y40 h39 => some (y40, h39)) (L f)) : ∀ k y n f, y + k = 16 → k + 1 ≤ f → RowV n (en2 v a y) → ∃ n', L f m a (nI y) (pm h m (sw s 2 n)) = some (a, pm h m (sw s 2 n')) ∧ RowV n' (en2 v a 16) := by
  have hc := W.c0
  intro k
  induction k with
  | zero =>
    intro y n f hy hf R
    obtain ⟨f, rfl⟩ : ∃ g, f = g + 1 := ⟨f - 1, by omega⟩
    refine ⟨n, ?_, by rw [show 16 = y by omega]; exact R⟩
    rw [hL]
    unfold f_X13_endNow_h70
    simp (discharger := omega) only [↓al_m, al_lit, al_add, al_mul, bd_some, pm_cV, pm_gR2, bn_0, bn_1, bn_jz, al_le]
    rw [if_pos (by omega)]
  | succ k ih =>
    intro y n f hy hf R
    obtain ⟨f, rfl⟩ : ∃ g, f = g + 1 := ⟨f - 1, by omega⟩
    have W2 := WFv_en2 W a hA y
    have R' : RowV ((sw s 2 n) 2) (en2 v a y) := by rw [sw_eq]; exact R
    have hq := W.pr y (by omega)
    have hr := W.pr (v 1 y) hq.1
    have e1 : en2 v a y 1 y = v 1 y := by rw [en2_1, if_neg (by omega)]
    have e2 : en2 v a y 2 (v 1 y) = v 2 (v 1 y) := by rw [en2_ne _ _ _ _ _ (by omega), en1_ne _ _ _ _ _ (by omega) (by omega)]
    have e0 : en2 v a y 0 y = en1 v a 16 0 y := by rw [en2_ne _ _ _ _ _ (by omega)]
    have e10 : en2 v a y 10 0 = v 10 0 := by rw [en2_ne _ _ _ _ _ (by omega), en1_ne _ _ _ _ _ (by omega) (by omega)]
    have ei : initV (en2 v a y) (v 2 (v 1 y)) = initV (en1 v a 16) (v 2 (v 1 y)) := by unfold initV; rw [en2_ne _ _ _ _ _ (by omega)]
    have stay : ¬ (en1 v a 16 0 y = 1 ∧ hb a (v 1 y) = true ∧ y ≠ 0) → en2 v a (y + 1) = en2 v a y := by
      intro hn
      funext b j
      unfold en2
      by_cases c1 : b = 1 ∧ j < y ∧ en1 v a 16 0 j = 1 ∧ hb a (v 1 j) = true ∧ j ≠ 0
      · rw [if_pos c1, if_pos ⟨c1.1, by omega, c1.2.2⟩]
      · rw [if_neg c1, if_neg]
        rintro ⟨d1, d2, d3⟩
        by_cases d4 : j = y
        · rw [d4] at d3; exact hn d3
        · exact c1 ⟨d1, by omega, d3⟩
    by_cases hg : en1 v a 16 0 y = 1 ∧ hb a (v 1 y) = true ∧ y ≠ 0
    · have hlt := hA y (by omega) hg.1 hg.2.1 hg.2.2
      have R2 : RowV (upd n (8 * y + 1) (nI (initV (en1 v a 16) (v 2 (v 1 y))))) (en2 v a (y + 1)) := by
        have := RowV_pr' R W2.bd y 1 (initV (en1 v a 16) (v 2 (v 1 y))) (by omega) (by omega)
        have e : upv (en2 v a y) 1 y (initV (en1 v a 16) (v 2 (v 1 y))) = en2 v a (y + 1) := by
          funext b j
          unfold upv
          by_cases c1 : b = 1 ∧ j = y
          · rw [if_pos c1, c1.1, c1.2, en2_1, if_pos ⟨by omega, hg⟩]
          · rw [if_neg c1]
            unfold en2
            by_cases c2 : b = 1 ∧ j < y ∧ en1 v a 16 0 j = 1 ∧ hb a (v 1 j) = true ∧ j ≠ 0
            · rw [if_pos c2, if_pos ⟨c2.1, by omega, c2.2.2⟩]
            · rw [if_neg c2, if_neg]
              rintro ⟨d1, d2, d3⟩
              exact c2 ⟨d1, by omega, d3⟩
        rw [← e]; exact this
      obtain ⟨n', e, R3⟩ := ih (y + 1) _ f (by omega) (by omega) R2
      refine ⟨n', ?_, R3⟩
      rw [hL]
      unfold f_X13_endNow_h70
      have hin : on 16 (initV (en1 v a 16) (v 2 (v 1 y))) = nI (initV (en1 v a 16) (v 2 (v 1 y))) := by unfold on; rw [if_neg (by omega)]
      simp (discharger := omega) only [↓al_m, al_lit, al_add, al_mul, bd_some, pm_cV, pm_gR2, bn_0, bn_1, bn_jz, al_le, al_eq, ts_0, t_there R' W2, v_of R', e1, e2, t_initOf R' W2, ei, hin, wr2, st2_sw, sw_sw, sw_eq, r_processAt, r_spaceAt, r_numberAt]
      rw [if_neg (by omega), if_neg (by rw [e0]; simp [hg.1]), if_neg (by simp [hg.2.1]), if_pos hg.2.2]
      exact e
    · obtain ⟨n', e, R3⟩ := ih (y + 1) n f (by omega) (by omega) (by rw [stay hg]; exact R)
      refine ⟨n', ?_, R3⟩
      rw [hL]
      unfold f_X13_endNow_h70
      simp (discharger := omega) only [↓al_m, al_lit, al_add, al_mul, bd_some, pm_cV, pm_gR2, bn_0, bn_1, bn_jz, al_le, al_eq, ts_0, t_there R' W2, v_of R', e1]
      rw [if_neg (by omega)]
      by_cases g1 : en1 v a 16 0 y = 1
      · rw [if_neg (by rw [e0]; simp [g1])]
        by_cases g2 : hb a (v 1 y) = true
        · rw [if_neg (by simp [g2]), if_neg (by intro g3; exact hg ⟨g1, g2, g3⟩)]
          exact e
        · rw [if_pos (by simpa using g2)]
          exact e
      · rw [if_pos (by rw [e0]; simp [g1])]
        exact e
def dEnd (v : vw) (p : Nat) : Int32 × vw := (fll v p, en2 v (fll v p) 16)
theorem adp_fll {v : vw} (W : WFv v) (M : SMv v) (p : Nat) (hp : p < 16) (hp1 : v 0 p = 1) : adp v (fll v p) := by
  intro q hq h0 h1 hq0
  have hv0 : v 0 q = 1 ∧ hb (fll v p) q = false := by
    rw [en1_0] at h0
    by_cases h : q < 16 ∧ hb (fll v p) q = true
    · rw [if_pos h] at h0; omega
    · rw [if_neg h] at h0
      refine ⟨h0, ?_⟩
      by_cases h2 : hb (fll v p) q = true
      · exact absurd ⟨hq, h2⟩ h
      · simpa using h2
  have hr := (W.pr q hq).1
  have hpp := M.pp q hq hv0.1
  rw [fll_hb v p _ hp (by omega)] at h1
  have h2 := hv0.2
  rw [fll_hb v p _ hp (by omega)] at h2
  by_cases hi : isIni v p = true
  · exfalso
    have h3 : v 2 p ∈ ch v 0 (v 2 (v 1 q)) := by
      by_cases h4 : v 1 q = p
      · rw [h4]; exact ch_self _ _ _
      · simp [h4, hi, inL] at h1; exact h1.2.2
    have h5 := ch_tr W (by decide) (v 2 q) (W.pr q hq).2.1 hpp.2 h3
    simp [hi, inL, hq, hv0.1, h5] at h2
  · have h3 : v 1 q = p := by simp [hi] at h1; exact h1
    rw [h3]
    have hl := M.il p hp hp1
    have hx := (W.pr p hp).2.1
    have hn : ¬ v 51 (v 2 p) = p + 2 := by unfold isIni at hi; simpa using hi
    have hnk := W.nk (v 2 p) hx
    unfold initV
    rw [en1_51 _ _ _ _ hx, fll_hb v p _ hp (by omega)]
    have hne : ¬ (v 51 (v 2 p) - 2 = p) := by omega
    simp [hi, hne, hl]
    omega
theorem d_end {h : jh} {m : Nat} {s : ms} {v : vw} (R : RowV (s 2) v) (W : WFv v) (M : SMv v) (p : Nat) (hp : p < 16) (hp1 : v 0 p = 1) : RD h m s (f_X13_endNow m (nI p) (pm h m s)) (dEnd v p) := by
  obtain ⟨f, hf⟩ := jfu_s
  have h0 : en1 v (fll v p) 0 = v := by funext b j; unfold en1; rw [if_neg (by omega), if_neg (by omega)]
  obtain ⟨n1, e1, R1⟩ := t_end1_l (h := h) (m := m) (s := s) W M (fll v p) (fun y19 y20 h18 => jlp3 (f_X13_endNow_h70 (fun y40 h39 => some (y40, h39))) jfu y19 y20 0 h18) (jlp3 (f_X13_endNow_h8 (fun y19 y20 h18 => jlp3 (f_X13_endNow_h70 (fun y40 h39 => some (y40, h39))) jfu y19 y20 0 h18))) (fun _ => rfl) 16 0 (s 2) jfu (by omega) (by omega) (by rw [h0]; exact R)
  have h1 : en2 v (fll v p) 0 = en1 v (fll v p) 16 := by funext b j; unfold en2; rw [if_neg (by omega)]
  obtain ⟨n2, e2, R2⟩ := t_end2_l (h := h) (m := m) (s := s) W (fll v p) (adp_fll W M p hp hp1) (jlp3 (f_X13_endNow_h70 (fun y40 h39 => some (y40, h39)))) (fun _ => rfl) 16 0 n1 jfu (by omega) (by omega) (by rw [h1]; exact R1)
  unfold f_X13_endNow
  rw [pm_cV, t_fall R W p hp, bd_some]
  rw [sw_id] at e1
  exact ⟨_, e1.trans e2, SB_2 _ _, by rw [sw_eq]; exact R2⟩
