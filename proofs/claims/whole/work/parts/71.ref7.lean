/-! the reference's deeds: create, mount -/
def dCrU (v : vw) (p : Nat) : Int32 × vw := if v 11 0 = 8 ∨ v 31 (v 3 p) = 4 then (nm1, v) else (nI (v 11 0), upv (upv (bgn v 1 (v 3 p) (v 6 p)) 3 p (v 11 0)) 7 p 1)
def dCrN (v : vw) (p : Nat) : Int32 × vw := if v 7 p = 0 ∨ v 5 p ≠ v 2 p ∨ v 10 0 = 8 ∨ v 30 (v 2 p) = 4 then (nm1, v) else (nI (v 10 0), upv (bgn v 0 (v 2 p) (v 3 p)) 5 p (v 10 0))
def dCrM (v : vw) (p : Nat) : Int32 × vw := if v 7 p = 0 ∨ v 12 0 = 8 ∨ v 32 (v 4 p) = 4 then (nm1, v) else (nI (v 12 0), upv (bgn v 2 (v 4 p) (v 3 p)) 4 p (v 12 0))
theorem bgn_bd {v : vw} (B : Bd v) (k par kp : Nat) (hk : k < 3) (hx : v (10 + k) 0 < 8) : Bd (bgn v k par kp) := by
  have c : ∀ j, j < 3 → bgn v k par kp (10 + j) 0 ≤ 8 := by
    intro j hj
    have := B.1 j hj
    by_cases h : j = k
    · subst h; rw [bgn_ct]; omega
    · rw [bgn_ne _ _ _ _ _ _ (by omega)]; omega
  refine ⟨c, c 0 (by decide), c 1 (by decide), c 2 (by decide), ?_⟩
  intro y hy
  by_cases h : k = 1
  · subst h
    have ex : v (10 + 1) 0 = v 11 0 := rfl
    rw [show bgn v 1 par kp 11 0 = v 11 0 + 1 from bgn_ct v 1 par kp] at hy
    by_cases hyx : y = v 11 0
    · subst hyx; rw [bgn_60]; omega
    · rw [bgn_ne _ _ _ _ _ _ (by omega)]; exact B.2.2.2.2 y (by omega)
  · rw [bgn_ne _ _ _ _ _ _ (by omega)] at hy ⊢
    exact B.2.2.2.2 y hy
theorem d_createU {h : jh} {m : Nat} {s : ms} {v : vw} (R : RowV (s 2) v) (W : WFv v) (p : Nat) (hp : p < 16) : RD h m s (f_X13_createNow m (nI p) (nI 1) (pm h m s)) (dCrU v p) := by
  have h1 := W.pr p hp
  have hc := W.c1
  obtain ⟨g1, g2⟩ := t_begin (h := h) (m := m) R W 1 (v 3 p) (v 6 p) (by decide) h1.2.2.1
  unfold f_X13_createNow f_X13_createNow_b15 f_X13_createNow_b36 f_X13_createNow_b58 dCrU
  simp (discharger := omega) only [↓al_m, al_lit, bd_some, pm_cV, v_of R, al_eq, if_true, if_false, not_true_eq_false, not_false_eq_true, Nat.one_ne_zero]
  unfold f_X13_createNow_b82
  rw [pm_cV]
  by_cases h0 : v 11 0 = 8 ∨ v 31 (v 3 p) = 4
  · rw [if_pos h0, g1 h0]
    simp only [bd_some, al_m, not_true_eq_false, if_false]
    exact RD_no R
  · rw [if_neg h0]
    obtain ⟨n', e, N, T0, Ta, Td, Tk, Tz⟩ := g2 h0
    have ex : v (10 + 1) 0 = v 11 0 := rfl
    rw [e]
    simp (discharger := omega) only [↓al_m, al_lit, al_add, al_mul, bd_some, pm_cV, pm_gR2, bn_0, bn_1, bn_jz, al_eq, if_false, not_false_eq_true, if_true, nm1_ne, wr2, st2_sw, sw_sw, sw_eq, r_processAt, r_spaceAt, r_numberAt]
    simp only [Nat.one_ne_zero, not_false_eq_true, if_true, if_false]
    refine ⟨_, rfl, SB_2 _ _, ?_⟩
    rw [sw_eq]
    have R1 : RowV n' (bgn v 1 (v 3 p) (v 6 p)) := RowV_bgn R W.bd 1 _ _ (by decide) (by omega) (by omega) N T0 Ta Td Tk (by rw [Tz 3 (by omega) (by omega)]; rfl) (fun h => by omega) (fun h => by omega)
    have B1 := bgn_bd W.bd 1 (v 3 p) (v 6 p) (by decide) (by omega)
    exact RowV_pr' (RowV_pr' R1 B1 p 3 _ hp (by omega)) (Bd_up B1 3 _ _ (by omega)) p 7 1 hp (by omega)
theorem d_createN {h : jh} {m : Nat} {s : ms} {v : vw} (R : RowV (s 2) v) (W : WFv v) (p : Nat) (hp : p < 16) : RD h m s (f_X13_createNow m (nI p) (nI 0) (pm h m s)) (dCrN v p) := by
  have h1 := W.pr p hp
  have hc := W.c0
  obtain ⟨g1, g2⟩ := t_begin (h := h) (m := m) R W 0 (v 2 p) (v 3 p) (by decide) h1.2.1
  unfold f_X13_createNow f_X13_createNow_b15 f_X13_createNow_b36 f_X13_createNow_b58 dCrN
  simp (discharger := omega) only [↓al_m, al_lit, bd_some, pm_cV, v_of R, al_eq, if_true, if_false, not_true_eq_false, not_false_eq_true, Nat.zero_ne_one]
  unfold f_X13_createNow_b82
  rw [pm_cV]
  by_cases h7 : v 7 p = 0
  · rw [if_pos h7, if_pos (Or.inl h7)]; exact RD_no R
  by_cases h5 : v 5 p = v 2 p
  · rw [if_neg h7, if_pos h5]
    by_cases h0 : v 10 0 = 8 ∨ v 30 (v 2 p) = 4
    · rw [if_pos (Or.inr (Or.inr h0)), g1 h0]
      simp only [bd_some, al_m, not_true_eq_false, if_false]
      exact RD_no R
    · rw [if_neg (by omega)]
      obtain ⟨n', e, N, T0, Ta, Td, Tk, Tz⟩ := g2 h0
      have ex : v (10 + 0) 0 = v 10 0 := rfl
      rw [e]
      simp (discharger := omega) only [↓al_m, al_lit, al_add, al_mul, bd_some, pm_cV, pm_gR2, bn_0, bn_1, bn_jz, al_eq, if_false, not_false_eq_true, if_true, nm1_ne, wr2, st2_sw, sw_sw, sw_eq, r_processAt, r_spaceAt, r_numberAt]
      refine ⟨_, rfl, SB_2 _ _, ?_⟩
      rw [sw_eq]
      have R1 : RowV (upd n' (256 + 14 * (8 * 0 + v (10 + 0) 0) + 3) (nI 1)) (bgn v 0 (v 2 p) (v 3 p)) := by
        refine RowV_bgn R W.bd 0 _ _ (by decide) (by omega) (by omega) ?_ ?_ ?_ ?_ ?_ ?_ ?_ ?_
        · intro j hj; rw [upd_ne' _ _ _ _ (by omega), N j hj]
        · rw [upd_ne' _ _ _ _ (by omega), T0]
        · rw [upd_ne' _ _ _ _ (by omega), Ta]
        · rw [upd_ne' _ _ _ _ (by omega), Td]
        · rw [upd_ne' _ _ _ _ (by omega), Tk]
        · rw [upd_eq']; rfl
        · intro _; rw [upd_ne' _ _ _ _ (by omega), Tz 5 (by omega) (by omega)]
        · intro hh; omega
      exact RowV_pr' R1 (bgn_bd W.bd 0 (v 2 p) (v 3 p) (by decide) (by omega)) p 5 _ hp (by omega)
  · rw [if_neg h7, if_neg h5, if_pos (Or.inr (Or.inl h5))]; exact RD_no R
theorem t_crm_l {h : jh} {m : Nat} {s : ms} (p x y : Nat) (hp : p < 16) (hx : x < 8) (hy : y < 8) (hxy : y ≠ x) (K : Nat → Int32 → Int32 → jh → Option (Int32 × jh)) (L : Nat → Nat → Int32 → Int32 → Int32 → Int32 → jh → Option (Int32 × jh)) (hL : ∀ f, L (f + 1) = f_X13_createNow_h158 K (L f)) : ∀ k i n f, i + k = 8 → k + 1 ≤ f → n (8 * p + 4) = nI y → ∃ n', L f m (nI p) (nI 2) (nI x) (nI i) (pm h m (sw s 2 n)) = K m (nI p) (nI x) (pm h m (sw s 2 n')) ∧ (∀ j, ¬ (256 + 14 * (8 * 2 + x) + 4 + i ≤ j ∧ j < 256 + 14 * (8 * 2 + x) + 12) → n' j = n j) ∧ (∀ j, i ≤ j → j < 8 → n' (256 + 14 * (8 * 2 + x) + (4 + j)) = n (256 + 14 * (8 * 2 + y) + (4 + j))) := by
  intro k
  induction k with
  | zero =>
    intro i n f hi hf hn
    obtain ⟨f, rfl⟩ : ∃ g, f = g + 1 := ⟨f - 1, by omega⟩
    refine ⟨n, ?_, fun _ _ => rfl, fun j h1 h2 => by omega⟩
    rw [hL]
    unfold f_X13_createNow_h158
    simp (discharger := omega) only [↓al_m, al_lit, al_add, al_mul, bd_some, pm_cV, pm_gR2, bn_0, bn_1, bn_jz, al_le]
    rw [if_pos (by omega)]
  | succ k ih =>
    intro i n f hi hf hn
    obtain ⟨f, rfl⟩ : ∃ g, f = g + 1 := ⟨f - 1, by omega⟩
    obtain ⟨n', e, N, T⟩ := ih (i + 1) (upd n (256 + 14 * (8 * 2 + x) + 4 + i) (n (256 + 14 * (8 * 2 + y) + (4 + i)))) f (by omega) (by omega) (by rw [upd_ne' _ _ _ _ (by omega)]; exact hn)
    refine ⟨n', ?_, ?_, ?_⟩
    · rw [hL]
      unfold f_X13_createNow_h158
      simp (discharger := omega) only [↓al_m, al_lit, al_add, al_mul, bd_some, pm_cV, pm_gR2, bn_0, bn_1, bn_jz, al_le, wr2, st2_sw, sw_sw, sw_eq, r_processAt, r_spaceAt, r_numberAt, r_of, r_spaceOf, hn]
      rw [if_neg (by omega)]
      exact e
    · intro j hj
      rw [N j (by omega), upd_ne' _ _ _ _ (by omega)]
    · intro j h1 h2
      by_cases h3 : j = i
      · subst h3
        rw [N _ (by omega), upd_at (by omega)]
      · rw [T j (by omega) h2, upd_ne' _ _ _ _ (by omega)]
theorem d_createM {h : jh} {m : Nat} {s : ms} {v : vw} (R : RowV (s 2) v) (W : WFv v) (p : Nat) (hp : p < 16) : RD h m s (f_X13_createNow m (nI p) (nI 2) (pm h m s)) (dCrM v p) := by
  have h1 := W.pr p hp
  have hc := W.c2
  obtain ⟨g1, g2⟩ := t_begin (h := h) (m := m) R W 2 (v 4 p) (v 3 p) (by decide) h1.2.2.2.1
  have h21 : (2 = 1) = False := by decide
  have h20 : (2 = 0) = False := by decide
  unfold f_X13_createNow f_X13_createNow_b15 f_X13_createNow_b36 f_X13_createNow_b58 dCrM
  simp (discharger := omega) only [↓al_m, al_lit, bd_some, pm_cV, v_of R, al_eq, if_true, if_false, not_true_eq_false, not_false_eq_true, h21, h20]
  unfold f_X13_createNow_b82
  rw [pm_cV]
  by_cases h7 : v 7 p = 0
  · rw [if_pos h7, if_pos (Or.inl h7)]; exact RD_no R
  rw [if_neg h7]
  by_cases h0 : v 12 0 = 8 ∨ v 32 (v 4 p) = 4
  · rw [if_pos (Or.inr h0), g1 h0]
    simp only [bd_some, al_m, not_true_eq_false, if_false]
    exact RD_no R
  · rw [if_neg (by omega)]
    obtain ⟨n', e, N, T0, Ta, Td, Tk, Tz⟩ := g2 h0
    have ex : v (10 + 2) 0 = v 12 0 := rfl
    obtain ⟨f, hf⟩ := jfu_s
    rw [e]
    simp (discharger := omega) only [bd_some, ↓al_m, nm1_ne, not_false_eq_true, if_true, al_lit, al_eq, h21, h20]
    obtain ⟨n2, e2, N2, T2⟩ := t_crm_l (h := h) (m := m) (s := s) p (v 12 0) (v 4 p) hp (by omega) (by omega) (by omega) (fun y25 y26 y27 h24 =>
gR h24 y25 11 2 fun v28 =>
bd (f_X13_processAt y26 4 h24) fun v29 h30 =>
sI h30 v28 v29 y27 fun h31 =>
some (y27, h31)) (jlp5 (f_X13_createNow_h158 (fun y25 y26 y27 h24 =>
gR h24 y25 11 2 fun v28 =>
bd (f_X13_processAt y26 4 h24) fun v29 h30 =>
sI h30 v28 v29 y27 fun h31 =>
some (y27, h31)))) (fun _ => rfl) 8 0 n' jfu (by omega) (by omega) (by rw [N _ (by omega), R.pr p 4 hp (by omega)])
    have e3 : RD h m s (jlp5 (f_X13_createNow_h158 (fun y25 y26 y27 h24 =>
gR h24 y25 11 2 fun v28 =>
bd (f_X13_processAt y26 4 h24) fun v29 h30 =>
sI h30 v28 v29 y27 fun h31 =>
some (y27, h31))) jfu m (nI p) (nI 2) (nI (v 12 0)) (nI 0) (pm h m (sw s 2 n'))) (nI (v 12 0), upv (bgn v 2 (v 4 p) (v 3 p)) 4 p (v 12 0)) := by
      rw [e2]
      simp (discharger := omega) only [↓al_m, al_lit, al_add, al_mul, bd_some, pm_cV, pm_gR2, bn_0, bn_1, bn_jz, wr2, st2_sw, sw_sw, sw_eq, r_processAt, r_spaceAt, r_numberAt]
      refine ⟨_, rfl, SB_2 _ _, ?_⟩
      rw [sw_eq]
      have R1 : RowV n2 (bgn v 2 (v 4 p) (v 3 p)) := by
        refine RowV_bgn R W.bd 2 _ _ (by decide) (by omega) (by omega) ?_ ?_ ?_ ?_ ?_ ?_ ?_ ?_
        · intro j hj; rw [N2 _ (by omega), N j hj]
        · rw [N2 _ (by omega), T0]
        · rw [N2 _ (by omega), Ta]
        · rw [N2 _ (by omega), Td]
        · rw [N2 _ (by omega), Tk]
        · rw [N2 _ (by omega), Tz 3 (by omega) (by omega)]; rfl
        · intro hh; omega
        · intro _ i hi
          rw [T2 i (by omega) hi, N _ (by omega), R.tg (v 4 p) i (by omega) hi]
      exact RowV_pr' R1 (bgn_bd W.bd 2 (v 4 p) (v 3 p) (by decide) (by omega)) p 4 _ hp (by omega)
    exact e3
/-- a thing put into those whose bits are set -/
def putv (v : vw) (a : Int32) (i x : Nat) (e : Nat) : vw := fun b j => if b = 71 ∧ j % 8 = i ∧ j / 8 < e ∧ hb a (j / 8) = true then x else v b j
def dMnt (v : vw) (p i x : Nat) : Int32 × vw :=
  if i < 8 ∧ x < 100 ∧ ovp v p (v 42 (v 4 p)) = true ∧ v 71 (8 * v 4 p + i) ≠ x then (nI (v 71 (8 * v 4 p + i)), putv v (sprd v (v 4 p)) i x (v 12 0)) else (nm1, v)
theorem t_mnt_l {h : jh} {m : Nat} {s : ms} {v : vw} (W : WFv v) (i x : Nat) (a was : Int32) (hi : i < 8) (L : Nat → Nat → Int32 → Int32 → Int32 → Int32 → Int32 → jh → Option (Int32 × jh)) (hL : ∀ f, L (f + 1) = f_X13_mountNow_h83 (fun y30 h29 => some (y30, h29)) (L f)) : ∀ k y n v1 f, y + k = v 12 0 → k + 1 ≤ f → RowV n v1 → Bd v1 → v1 12 0 = v 12 0 → (∀ b j, v1 b j = putv v a i x y b j) → ∃ n', L f m (nI i) (nI x) was a (nI y) (pm h m (sw s 2 n)) = some (was, pm h m (sw s 2 n')) ∧ RowV n' (putv v a i x (v 12 0)) := by
  have hc := W.c2
  intro k
  induction k with
  | zero =>
    intro y n v1 f hy hf R B hv1 hv
    obtain ⟨f, rfl⟩ : ∃ g, f = g + 1 := ⟨f - 1, by omega⟩
    refine ⟨n, ?_, ?_⟩
    · rw [hL]
      unfold f_X13_mountNow_h83
      have R' : RowV ((sw s 2 n) 2) v1 := by rw [sw_eq]; exact R
      simp (discharger := omega) only [↓al_m, al_lit, al_add, al_mul, bd_some, pm_cV, pm_gR2, bn_0, bn_1, bn_jz, v_ct2 R', al_le, hv1]
      rw [if_pos (by omega)]
    · have : v1 = putv v a i x (v 12 0) := by funext b j; rw [hv, show y = v 12 0 by omega]
      rw [← this]; exact R
  | succ k ih =>
    intro y n v1 f hy hf R B hv1 hv
    obtain ⟨f, rfl⟩ : ∃ g, f = g + 1 := ⟨f - 1, by omega⟩
    have R' : RowV ((sw s 2 n) 2) v1 := by rw [sw_eq]; exact R
    by_cases hb1 : hb a y = true
    · have R2 : RowV (upd n (256 + 14 * (8 * 2 + y) + (4 + i)) (nI x)) (upv v1 71 (8 * y + i) x) := by
        refine RowV_tg R B y i (by omega) hi (fun j h => upd_ne' _ _ _ _ h) (fun b j h => upv_ne _ _ _ _ _ _ h) ?_
        rw [upd_eq', upv_eq]
      have B2 : Bd (upv v1 71 (8 * y + i) x) := Bd_eq B (upv_ne _ _ _ _ _ _ (by omega)) (upv_ne _ _ _ _ _ _ (by omega)) (upv_ne _ _ _ _ _ _ (by omega)) (by funext j; exact upv_ne _ _ _ _ _ _ (by omega))
      obtain ⟨n', e, R3⟩ := ih (y + 1) _ _ f (by omega) (by omega) R2 B2 (by rw [upv_ne _ _ _ _ _ _ (by omega), hv1]) (by
        intro b j
        unfold upv
        rw [hv]
        unfold putv
        by_cases h1 : b = 71 ∧ j = 8 * y + i
        · have h2 : j / 8 = y := by omega
          have h3 : j % 8 = i := by omega
          rw [if_pos h1, if_pos ⟨h1.1, h3, by omega, by rw [h2]; exact hb1⟩]
        · rw [if_neg h1]
          by_cases h2 : b = 71 ∧ j % 8 = i ∧ j / 8 < y ∧ hb a (j / 8) = true
          · rw [if_pos h2, if_pos ⟨h2.1, h2.2.1, by omega, h2.2.2.2⟩]
          · rw [if_neg h2, if_neg (by
              rintro ⟨h3, h4, h5, h6⟩
              by_cases h7 : j / 8 = y
              · exact h1 ⟨h3, by omega⟩
              · exact h2 ⟨h3, h4, by omega, h6⟩)])
      refine ⟨n', ?_, R3⟩
      rw [hL]
      unfold f_X13_mountNow_h83
      simp (discharger := omega) only [↓al_m, al_lit, al_add, al_mul, bd_some, pm_cV, pm_gR2, bn_0, bn_1, bn_jz, v_ct2 R', al_le, hv1, ts_1, hb1, not_true_eq_false, if_false, wr2, st2_sw, sw_sw, sw_eq, r_processAt, r_spaceAt, r_numberAt]
      rw [if_neg (by omega)]
      rw [show 256 + 14 * (8 * 2 + y) + 4 + i = 256 + 14 * (8 * 2 + y) + (4 + i) by omega]
      exact e
    · obtain ⟨n', e, R3⟩ := ih (y + 1) _ _ f (by omega) (by omega) R B hv1 (by
        intro b j
        rw [hv]
        unfold putv
        by_cases h2 : b = 71 ∧ j % 8 = i ∧ j / 8 < y ∧ hb a (j / 8) = true
        · rw [if_pos h2, if_pos ⟨h2.1, h2.2.1, by omega, h2.2.2.2⟩]
        · rw [if_neg h2, if_neg (by
            rintro ⟨h3, h4, h5, h6⟩
            by_cases h7 : j / 8 = y
            · rw [h7] at h6; exact hb1 h6
            · exact h2 ⟨h3, h4, by omega, h6⟩)])
      refine ⟨n', ?_, R3⟩
      rw [hL]
      unfold f_X13_mountNow_h83
      simp (discharger := omega) only [↓al_m, al_lit, al_add, al_mul, bd_some, pm_cV, pm_gR2, bn_0, bn_1, bn_jz, v_ct2 R', al_le, hv1, ts_1, hb1, not_false_eq_true, if_true]
      rw [if_neg (by omega)]
      exact e
theorem d_mount {h : jh} {m : Nat} {s : ms} {v : vw} (R : RowV (s 2) v) (W : WFv v) (p i x : Nat) (hp : p < 16) (hi : i < 8) (hx : x < 100) : RD h m s (f_X13_mountNow m (nI p) (nI i) (nI x) (pm h m s)) (dMnt v p i x) := by
  have h1 := W.pr p hp
  have hc := W.c2
  have h2 := W.mk (v 4 p) (by omega)
  have h3 := W.tg (v 4 p) i (by omega) hi
  obtain ⟨f, hf⟩ := jfu_s
  unfold f_X13_mountNow dMnt
  simp (discharger := omega) only [↓al_m, al_lit, al_add, bd_some, pm_cV, bn_0, v_of R, v_nm R, v_ct0 R, v_ct1 R, v_ct2 R, v_ar0 R W, v_ar1 R W, v_ar2 R W, v_dp0 R W, v_dp1 R W, v_dp2 R W, v_kp0 R W, v_kp1 R W, v_kp2 R W, v_gv R W, v_bg R W, v_rn R W, v_sh R W, v_tg R W, r_isIn, al_eq, al_le, t_isOver R W, t_spreads R W]
  have d1 : decide (0 ≤ i ∧ i ≤ 7) = true := by simp; omega
  have d2 : decide (0 ≤ x ∧ x ≤ 99) = true := by simp; omega
  rw [d1, d2]
  cases ovp v p (v 42 (v 4 p))
  · simp; exact RD_no R
  · by_cases h4 : v 71 (8 * v 4 p + i) = x
    · simp [h4]; exact RD_no R
    · simp only [hi, hx, h4, true_and, ne_eq, not_false_eq_true, if_true, Bool.true_eq_false, if_false]
      obtain ⟨n', e, R2⟩ := t_mnt_l (h := h) (m := m) (s := s) W i x (sprd v (v 4 p)) (nI (v 71 (8 * v 4 p + i))) hi (jlp6 (f_X13_mountNow_h83 (fun y30 h29 => some (y30, h29)))) (fun _ => rfl) (v 12 0) 0 (s 2) v jfu (by omega) (by omega) R W.bd rfl (by
        intro b j; unfold putv; rw [if_neg (by omega)])
      rw [sw_id] at e
      exact ⟨_, e, SB_2 _ _, by rw [sw_eq]; exact R2⟩
