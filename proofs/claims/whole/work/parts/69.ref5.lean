/-! the reference's deeds: become, share, enter -/
def SB (s s' : ms) : Prop := ∀ k, k ≠ 2 → k ≠ 17 → s' k = s k
theorem SB_id (s : ms) : SB s s := fun _ _ _ => rfl
theorem SB_2 (s : ms) (n : Nat → Int32) : SB s (sw s 2 n) := fun k h2 _ => sw_ne _ _ _ _ h2
theorem SB_17 (s : ms) (n : Nat → Int32) : SB s (sw s 17 n) := fun k _ h2 => sw_ne _ _ _ _ h2
theorem SB_tr {a b c : ms} (h1 : SB a b) (h2 : SB b c) : SB a c := fun k h3 h4 => (h2 k h3 h4).trans (h1 k h3 h4)
/-- what a deed of the reference does: its answer, and the state after it -/
def RD (h : jh) (m : Nat) (s : ms) (o : Option (Int32 × jh)) (d : Int32 × vw) : Prop := ∃ s', o = some (d.1, pm h m s') ∧ SB s s' ∧ RowV (s' 2) d.2
theorem RD_no {h : jh} {m : Nat} {s : ms} {v : vw} (R : RowV (s 2) v) : RD h m s (some (nm1, pm h m s)) (nm1, v) := ⟨s, rfl, SB_id s, R⟩
theorem upd_at {n : Nat → Int32} {i j : Nat} {x : Int32} (h : j = i) : upd n i x j = x := if_pos h
theorem RowV_pr' {n : Nat → Int32} {v : vw} (R : RowV n v) (B : Bd v) (p k x : Nat) (hp : p < 16) (hk : k < 8) : RowV (upd n (8 * p + k) (nI x)) (upv v k p x) :=
  RowV_pr R B p k x hp hk (fun j h => upd_ne' _ _ _ _ h) (upd_eq' _ _ _) (fun a j h => upv_ne _ _ _ _ _ _ h) (upv_eq _ _ _ _)
theorem Bd_up {v : vw} (B : Bd v) (k i x : Nat) (hk : k < 9) : Bd (upv v k i x) :=
  Bd_eq B (upv_ne _ _ _ _ _ _ (by omega)) (upv_ne _ _ _ _ _ _ (by omega)) (upv_ne _ _ _ _ _ _ (by omega)) (by funext j; exact upv_ne _ _ _ _ _ _ (by omega))
def dBec (v : vw) (p id : Nat) : Int32 × vw :=
  if v 7 p = 1 ∧ id < 100 ∧ owl v (ch v 1 (v 3 p)) id ≠ 65534 then (nI (owl v (ch v 1 (v 3 p)) id), upv (upv v 6 p (owl v (ch v 1 (v 3 p)) id)) 7 p (if id = 0 then 1 else 0)) else (nm1, v)
theorem d_become {h : jh} {m : Nat} {s : ms} {v : vw} (R : RowV (s 2) v) (W : WFv v) (p id : Nat) (hp : p < 16) (hid : id < 100) : RD h m s (f_X13_becomeNow m (nI p) (nI id) (pm h m s)) (dBec v p id) := by
  have h1 := W.pr p hp
  have h2 := owl_lt W (v 3 p) (by omega) id (by omega)
  unfold f_X13_becomeNow f_X13_becomeNow_b26 dBec
  simp (discharger := omega) only [↓al_m, al_lit, al_add, al_mul, bd_some, pm_cV, pm_gR2, bn_0, bn_1, bn_jz, v_of R, v_nm R, v_ct0 R, v_ct1 R, v_ct2 R, v_ar0 R W, v_ar1 R W, v_ar2 R W, v_dp0 R W, v_dp1 R W, v_dp2 R W, v_kp0 R W, v_kp1 R W, v_kp2 R W, v_gv R W, v_bg R W, v_rn R W, v_sh R W, r_isIn, al_le, al_eq, t_toRoot R W, wr2, st2_sw, sw_sw, sw_eq, r_processAt, r_spaceAt, r_numberAt]
  have h3 : decide (0 ≤ id ∧ id ≤ 99) = true := by simp; omega
  rw [h3]
  generalize owl v (ch v 1 (v 3 p)) id = g at h2 ⊢
  by_cases h4 : v 7 p = 1
  · by_cases h5 : g = 65534
    · simp [h4, h5]
      exact RD_no R
    · by_cases h6 : id = 0
      · simp [h4, h5, h6]
        refine ⟨_, rfl, SB_2 _ _, ?_⟩
        rw [sw_eq]
        exact RowV_pr' (RowV_pr' R W.bd p 6 _ hp (by omega)) (Bd_up W.bd 6 _ _ (by omega)) p 7 1 hp (by omega)
      · simp [h4, h5, h6, hid]
        refine ⟨_, rfl, SB_2 _ _, ?_⟩
        rw [sw_eq]
        exact RowV_pr' (RowV_pr' R W.bd p 6 _ hp (by omega)) (Bd_up W.bd 6 _ _ (by omega)) p 7 0 hp (by omega)
  · have h5 : v 7 p = 0 := by omega
    simp [h5]
    exact RD_no R
theorem d_become' {h : jh} {m : Nat} {s : ms} {v : vw} (R : RowV (s 2) v) (W : WFv v) (p : Nat) (x : Int32) (hp : p < 16) (hx : x < 0 ∨ nI 100 ≤ x) : RD h m s (f_X13_becomeNow m (nI p) x (pm h m s)) (dBec v p 100) := by
  have h1 := W.pr p hp
  have h3 : decide (nI 0 ≤ x ∧ x ≤ nI 99) = false := by
    apply decide_eq_false
    rintro ⟨h1, h2⟩
    rcases hx with h3 | h3
    · exact absurd h3 (Int32.not_lt.mpr h1)
    · exact absurd (Int32.le_trans h3 h2) (by decide)
  unfold f_X13_becomeNow f_X13_becomeNow_b26 dBec
  simp (discharger := omega) only [↓al_m, al_lit, al_add, al_mul, bd_some, pm_cV, pm_gR2, bn_0, bn_1, bn_jz, v_of R, v_nm R, v_ct0 R, v_ct1 R, v_ct2 R, v_ar0 R W, v_ar1 R W, v_ar2 R W, v_dp0 R W, v_dp1 R W, v_dp2 R W, v_kp0 R W, v_kp1 R W, v_kp2 R W, v_gv R W, v_bg R W, v_rn R W, v_sh R W, r_isIn, al_eq, h3]
  by_cases h4 : v 7 p = 0 <;> simp [h4] <;> exact RD_no R
def dShr (v : vw) (p : Nat) : Int32 × vw :=
  if ovp v p (v 42 (v 4 p)) = true then (nI (1 - v 70 (v 4 p)), upv v 70 (v 4 p) (1 - v 70 (v 4 p))) else (nm1, v)
theorem d_share {h : jh} {m : Nat} {s : ms} {v : vw} (R : RowV (s 2) v) (W : WFv v) (p : Nat) (hp : p < 16) : RD h m s (f_X13_shareNow m (nI p) (pm h m s)) (dShr v p) := by
  have h1 := W.pr p hp
  have h2 := W.mk (v 4 p) (by omega)
  have hc := W.c2
  have e := R.sh (v 4 p) (by omega)
  have ex : nI (v 70 (v 4 p)) ^^^ nI 1 = nI (1 - v 70 (v 4 p)) := by
    have : v 70 (v 4 p) = 0 ∨ v 70 (v 4 p) = 1 := by omega
    rcases this with e | e <;> rw [e] <;> decide
  unfold f_X13_shareNow dShr
  simp (discharger := omega) only [↓al_m, al_lit, al_add, al_mul, bd_some, pm_cV, pm_gR2, bn_0, bn_1, bn_jz, v_of R, v_nm R, v_ct0 R, v_ct1 R, v_ct2 R, v_ar0 R W, v_ar1 R W, v_ar2 R W, v_dp0 R W, v_dp1 R W, v_dp2 R W, v_kp0 R W, v_kp1 R W, v_kp2 R W, v_gv R W, v_bg R W, v_rn R W, v_sh R W, al_eq, t_isOver R W, wr2, st2_sw, sw_sw, sw_eq, r_processAt, r_spaceAt, r_numberAt, rd2, e, ex]
  cases ovp v p (v 42 (v 4 p))
  · simp; exact RD_no R
  · simp only [not_false_eq_true, if_true, Bool.true_eq_false]
    rw [r_spaceOf _ _ _ (by omega), sw_eq, upd_at rfl]
    refine ⟨_, rfl, SB_2 _ _, ?_⟩
    rw [sw_eq]
    refine RowV_sh R W.bd (v 4 p) (by omega) (fun j h => upd_ne' _ _ _ _ h) (fun a j h => upv_ne _ _ _ _ _ _ h) ?_
    rw [upd_eq']
    exact congrArg nI (upv_eq v 70 (v 4 p) (1 - v 70 (v 4 p))).symm
def dEnt (v : vw) (p q kd : Nat) : Int32 × vw :=
  if kd < 3 ∧ q < 16 ∧ v 0 q = 1 ∧ cneV v p q kd = true then
    (if kd = 0 then (nI (v 2 q), upv v 5 p (v 2 q)) else if kd = 1 then (nI (v 3 q), upv (upv v 3 p (v 3 q)) 7 p 1) else (nI (v 4 q), upv v 4 p (v 4 q)))
  else (nm1, v)
theorem d_enter {h : jh} {m : Nat} {s : ms} {v : vw} (R : RowV (s 2) v) (W : WFv v) (p q kd : Nat) (hp : p < 16) (hq : q < 16) (hk : kd < 3) (hq1 : v 0 q = 1) : RD h m s (f_X13_enterNow m (nI p) (nI q) (nI kd) (pm h m s)) (dEnt v p q kd) := by
  have h1 := W.pr p hp
  have h2 := W.pr q hq
  unfold f_X13_enterNow f_X13_enterNow_b32 f_X13_enterNow_b60 dEnt
  simp (discharger := omega) only [↓al_m, al_lit, al_add, al_mul, bd_some, pm_cV, pm_gR2, bn_0, bn_1, bn_jz, v_of R, v_nm R, v_ct0 R, v_ct1 R, v_ct2 R, v_ar0 R W, v_ar1 R W, v_ar2 R W, v_dp0 R W, v_dp1 R W, v_dp2 R W, v_kp0 R W, v_kp1 R W, v_kp2 R W, v_gv R W, v_bg R W, v_rn R W, v_sh R W, al_eq, t_canEnter R W, wr2, st2_sw, sw_sw, sw_eq, r_processAt, r_spaceAt, r_numberAt, hk, hq, hq1, true_and]
  cases cneV v p q kd
  · simp; exact RD_no R
  · have : kd = 0 ∨ kd = 1 ∨ kd = 2 := by omega
    rcases this with rfl | rfl | rfl
    · simp
      refine ⟨_, rfl, SB_2 _ _, ?_⟩
      rw [sw_eq]
      exact RowV_pr' R W.bd p 5 _ hp (by omega)
    · simp
      refine ⟨_, rfl, SB_2 _ _, ?_⟩
      rw [sw_eq]
      exact RowV_pr' (RowV_pr' R W.bd p 3 _ hp (by omega)) (Bd_up W.bd 3 _ _ (by omega)) p 7 1 hp (by omega)
    · simp
      refine ⟨_, rfl, SB_2 _ _, ?_⟩
      rw [sw_eq]
      exact RowV_pr' R W.bd p 4 _ hp (by omega)
