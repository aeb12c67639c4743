/-! the reference's questions -/
/-- who has a number in a space -/
def whP (v : vw) (x n : Nat) (p : Nat) : Bool := decide (v 0 p = 1 ∧ v 8 (8 * p + x) = n)
def who (v : vw) (x n : Nat) : Nat := ff (whP v x n) 16 0
def sesV (v : vw) (p q : Nat) : Bool := decide (v 8 (8 * q + v 2 p) ≠ 0)
def initV (v : vw) (x : Nat) : Nat := if 2 ≤ v 51 x then v 51 x - 2 else 16
def isIni (v : vw) (p : Nat) : Bool := decide (v 51 (v 2 p) = p + 2)
theorem t_sees {h : jh} {m : Nat} {s : ms} {v : vw} (R : RowV (s 2) v) (W : WFv v) (p q : Nat) (hp : p < 16) (hq : q < 16) : f_X13_sees m (nI p) (nI q) (pm h m s) = some (bn (sesV v p q), pm h m s) := by
  have hc := W.c0
  have h1 := W.pr p hp
  have h2 := W.nm q (v 2 p) hq (by omega)
  unfold f_X13_sees sesV
  simp (discharger := omega) only [↓al_m, al_lit, al_add, al_mul, bd_some, pm_cV, pm_gR2, bn_0, bn_1, bn_jz, v_of R, v_nm R, v_ct0 R, v_ct1 R, v_ct2 R, v_ar0 R W, v_ar1 R W, v_ar2 R W, v_dp0 R W, v_dp1 R W, v_dp2 R W, v_kp0 R W, v_kp1 R W, v_kp2 R W, v_gv R W, v_bg R W, v_rn R W, v_sh R W, al_le]
  by_cases h3 : v 8 (8 * q + v 2 p) = 0 <;> simp [h3, bn]
theorem t_initOf {h : jh} {m : Nat} {s : ms} {v : vw} (R : RowV (s 2) v) (W : WFv v) (x : Nat) (hx : x < v 10 0) : f_X13_initOf m (nI x) (pm h m s) = some (on 16 (initV v x), pm h m s) := by
  have h1 := W.nk x hx
  unfold f_X13_initOf initV on
  by_cases h2 : v 51 x = 0
  · simp (discharger := omega) only [↓al_m, al_lit, al_add, al_mul, bd_some, pm_cV, pm_gR2, bn_0, bn_1, bn_jz, v_of R, v_nm R, v_ct0 R, v_ct1 R, v_ct2 R, v_ar0 R W, v_ar1 R W, v_ar2 R W, v_dp0 R W, v_dp1 R W, v_dp2 R W, v_kp0 R W, v_kp1 R W, v_kp2 R W, v_gv R W, v_bg R W, v_rn R W, v_sh R W, h2, if_true, al_eq]
    rfl
  · simp (discharger := omega) only [↓al_m, al_lit, al_add, al_mul, bd_some, pm_cV, pm_gR2, bn_0, bn_1, bn_jz, v_of R, v_nm R, v_ct0 R, v_ct1 R, v_ct2 R, v_ar0 R W, v_ar1 R W, v_ar2 R W, v_dp0 R W, v_dp1 R W, v_dp2 R W, v_kp0 R W, v_kp1 R W, v_kp2 R W, v_gv R W, v_bg R W, v_rn R W, v_sh R W, v_it R W, h2, if_true, if_false, al_eq, not_true_eq_false]
    by_cases h3 : v 51 x = 1
    · simp [h3]
    · rw [if_neg h3, if_pos (show 2 ≤ v 51 x by omega), if_neg (by omega)]
theorem t_isDead {h : jh} {m : Nat} {s : ms} {v : vw} (R : RowV (s 2) v) (W : WFv v) (x : Nat) (hx : x < v 10 0) : f_X13_isDead m (nI x) (pm h m s) = some (bn (decide (v 51 x = 1)), pm h m s) := by
  have h1 := W.nk x hx
  unfold f_X13_isDead
  by_cases h2 : v 51 x = 0
  · simp (discharger := omega) only [↓al_m, al_lit, al_add, al_mul, bd_some, pm_cV, pm_gR2, bn_0, bn_1, bn_jz, v_of R, v_nm R, v_ct0 R, v_ct1 R, v_ct2 R, v_ar0 R W, v_ar1 R W, v_ar2 R W, v_dp0 R W, v_dp1 R W, v_dp2 R W, v_kp0 R W, v_kp1 R W, v_kp2 R W, v_gv R W, v_bg R W, v_rn R W, v_sh R W, h2, if_true, al_eq]
    rfl
  · simp (discharger := omega) only [↓al_m, al_lit, al_add, al_mul, bd_some, pm_cV, pm_gR2, bn_0, bn_1, bn_jz, v_of R, v_nm R, v_ct0 R, v_ct1 R, v_ct2 R, v_ar0 R W, v_ar1 R W, v_ar2 R W, v_dp0 R W, v_dp1 R W, v_dp2 R W, v_kp0 R W, v_kp1 R W, v_kp2 R W, v_gv R W, v_bg R W, v_rn R W, v_sh R W, v_it R W, h2, if_true, if_false, al_eq, not_true_eq_false]
    by_cases h3 : v 51 x = 1
    · simp [h3, bn]
    · simp (discharger := omega) [h3, bn, nm1_ne]
theorem on_nI {x n : Nat} (hx : x ≤ 16) (hn : n < 16) : (on 16 x = nI n) = (x = n) := by
  unfold on
  by_cases h : x = 16
  · rw [if_pos h, nm1_ne' (by omega)]
    apply propext; constructor
    · intro h; exact h.elim
    · omega
  · rw [if_neg h, al_eq (by omega) (by omega)]
theorem t_isInit {h : jh} {m : Nat} {s : ms} {v : vw} (R : RowV (s 2) v) (W : WFv v) (p : Nat) (hp : p < 16) : f_X13_isInit m (nI p) (pm h m s) = some (bn (isIni v p), pm h m s) := by
  have h1 := W.pr p hp
  have h2 := W.nk (v 2 p) (by omega)
  have h3 : initV v (v 2 p) ≤ 16 := by unfold initV; by_cases h4 : 2 ≤ v 51 (v 2 p) <;> simp [h4]; omega
  unfold f_X13_isInit isIni
  simp (discharger := omega) only [↓al_m, al_lit, al_add, al_mul, bd_some, pm_cV, pm_gR2, bn_0, bn_1, bn_jz, v_of R, v_nm R, v_ct0 R, v_ct1 R, v_ct2 R, v_ar0 R W, v_ar1 R W, v_ar2 R W, v_dp0 R W, v_dp1 R W, v_dp2 R W, v_kp0 R W, v_kp1 R W, v_kp2 R W, v_gv R W, v_bg R W, v_rn R W, v_sh R W, t_initOf R W, on_nI]
  have e : (initV v (v 2 p) = p) = (v 51 (v 2 p) = p + 2) := by
    apply propext
    unfold initV
    by_cases h4 : 2 ≤ v 51 (v 2 p)
    · rw [if_pos h4]; omega
    · rw [if_neg h4]; omega
  simp only [e]
  by_cases h4 : v 51 (v 2 p) = p + 2 <;> simp [h4, bn]
theorem t_whose_l {h : jh} {m : Nat} {s : ms} {v : vw} (R : RowV (s 2) v) (W : WFv v) (x n : Nat) (hx : x < 8) (hn : n < 100) (L : Nat → Nat → Int32 → Int32 → Int32 → jh → Option (Int32 × jh)) (hL : ∀ f, L (f + 1) = f_X13_whose_h2 (fun  h8 => some ((-1), h8)) (L f)) : ∀ k i f, i + k = 16 → k + 1 ≤ f → L f m (nI x) (nI n) (nI i) (pm h m s) = some (on 16 (ff (whP v x n) k i), pm h m s) := by
  intro k
  induction k with
  | zero =>
    intro i f hi hf
    obtain ⟨f, rfl⟩ : ∃ g, f = g + 1 := ⟨f - 1, by omega⟩
    rw [hL]
    unfold f_X13_whose_h2
    simp (discharger := omega) only [↓al_m, al_lit, al_add, al_mul, bd_some, pm_cV, pm_gR2, bn_0, bn_1, bn_jz, al_le]
    rw [if_pos (by omega), ff, on, if_pos (by omega)]
  | succ k ih =>
    intro i f hi hf
    obtain ⟨f, rfl⟩ : ∃ g, f = g + 1 := ⟨f - 1, by omega⟩
    rw [hL]
    unfold f_X13_whose_h2
    have h1 := W.th i (by omega)
    have h2 := W.nm i x (by omega) hx
    simp (discharger := omega) only [↓al_m, al_lit, al_add, al_mul, bd_some, pm_cV, pm_gR2, bn_0, bn_1, bn_jz, v_of R, v_nm R, v_ct0 R, v_ct1 R, v_ct2 R, v_ar0 R W, v_ar1 R W, v_ar2 R W, v_dp0 R W, v_dp1 R W, v_dp2 R W, v_kp0 R W, v_kp1 R W, v_kp2 R W, v_gv R W, v_bg R W, v_rn R W, v_sh R W, al_le, al_eq]
    rw [if_neg (by omega), ff, ih (i + 1) f (by omega) (by omega)]
    unfold whP
    by_cases h3 : v 0 i = 1 <;> by_cases h4 : v 8 (8 * i + x) = n <;> simp [h3, h4, on] <;> omega
theorem t_whose {h : jh} {m : Nat} {s : ms} {v : vw} (R : RowV (s 2) v) (W : WFv v) (x n : Nat) (hx : x < 8) (hn : n < 100) : f_X13_whose m (nI x) (nI n) (pm h m s) = some (on 16 (who v x n), pm h m s) := by
  obtain ⟨f, hf⟩ := jfu_s
  exact t_whose_l R W x n hx hn _ (fun _ => rfl) 16 0 jfu (by omega) (by omega)
theorem who_le (v : vw) (x n : Nat) : who v x n ≤ 16 := by
  have := (ff_le (whP v x n) 16 0).2
  unfold who; omega
theorem on_nm1 {N x : Nat} (hx : x < 2147483648) : (on N x = nm1) = (x = N) := by
  unfold on
  by_cases h : x = N
  · simp [h]
  · rw [if_neg h, nm1_ne hx]; simp [h]
/-- the next number that P does not hold of -/
def nxt (P : Nat → Bool) : Nat → Nat → Nat
  | 0, _ => 0
  | k + 1, g => if P (if 20 ≤ g then 2 else g + 1) = true then nxt P k (if 20 ≤ g then 2 else g + 1) else (if 20 ≤ g then 2 else g + 1)
def tkn (v : vw) (x n : Nat) : Bool := decide (who v x n ≠ 16)
def fre (v : vw) (x : Nat) (own : Bool) : Nat := if own = true ∧ v 51 x = 0 then 1 else nxt (tkn v x) 19 (v 50 x)
theorem t_free_l {h : jh} {m : Nat} {s : ms} {v : vw} (R : RowV (s 2) v) (W : WFv v) (x : Nat) (hx : x < v 10 0) (L : Nat → Nat → Int32 → Int32 → Int32 → jh → Option (Int32 × jh)) (hL : ∀ f, L (f + 1) = f_X13_freeNumber_h27 (fun  h9 => some (0, h9)) (L f)) : ∀ k g i f, i + k = 21 → g ≤ 20 → k + 1 ≤ f → L f m (nI x) (nI g) (nI i) (pm h m s) = some (nI (nxt (tkn v x) k g), pm h m s) := by
  have hc := W.c0
  intro k
  induction k with
  | zero =>
    intro g i f hi hg hf
    obtain ⟨f, rfl⟩ : ∃ g, f = g + 1 := ⟨f - 1, by omega⟩
    rw [hL]
    unfold f_X13_freeNumber_h27
    simp (discharger := omega) only [↓al_m, al_lit, al_add, al_mul, bd_some, pm_cV, pm_gR2, bn_0, bn_1, bn_jz, al_lt]
    rw [if_pos (by omega), nxt]
  | succ k ih =>
    intro g i f hi hg hf
    obtain ⟨f, rfl⟩ : ∃ g, f = g + 1 := ⟨f - 1, by omega⟩
    rw [hL]
    unfold f_X13_freeNumber_h27 f_X13_freeNumber_b47
    have w1 := who_le v x (g + 1)
    have w2 := who_le v x 2
    simp (discharger := omega) only [↓al_m, al_lit, al_add, al_mul, bd_some, pm_cV, pm_gR2, bn_0, bn_1, bn_jz, al_lt, al_eq, t_whose R W, on_nm1]
    rw [if_neg (by omega), nxt]
    by_cases h1 : g = 20
    · have h2 : 20 ≤ g := by omega
      simp only [h1, not_true_eq_false, if_false, if_true, Nat.le_refl]
      rw [ih 2 (i + 1) f (by omega) (by omega) (by omega)]
      unfold tkn
      by_cases h3 : who v x 2 = 16 <;> simp [h3]
    · have h2 : ¬ 20 ≤ g := by omega
      simp only [h1, h2, not_false_eq_true, if_false, if_true]
      rw [ih (g + 1) (i + 1) f (by omega) (by omega) (by omega)]
      unfold tkn
      by_cases h3 : who v x (g + 1) = 16 <;> simp [h3]
theorem t_free16 {h : jh} {m : Nat} {s : ms} {v : vw} (R : RowV (s 2) v) (W : WFv v) (x : Nat) (hx : x < v 10 0) : f_X13_freeNumber_b16 m (nI x) (pm h m s) = some (nI (nxt (tkn v x) 19 (v 50 x)), pm h m s) := by
  have h1 := W.nk x hx
  obtain ⟨f, hf⟩ := jfu_s
  unfold f_X13_freeNumber_b16
  rw [pm_cV, show f_X13_spaceOf m 0 (nI x) 3 (pm h m s) = _ from v_gv R W x hx, bd_some]
  exact t_free_l R W x hx _ (fun _ => rfl) 19 (v 50 x) 2 jfu (by omega) (by omega) (by omega)
theorem t_free {h : jh} {m : Nat} {s : ms} {v : vw} (R : RowV (s 2) v) (W : WFv v) (x : Nat) (own : Bool) (hx : x < v 10 0) : f_X13_freeNumber m (nI x) (bn own) (pm h m s) = some (nI (fre v x own), pm h m s) := by
  have h1 := W.nk x hx
  unfold f_X13_freeNumber fre
  simp (discharger := omega) only [↓al_m, al_lit, al_add, al_mul, bd_some, pm_cV, pm_gR2, bn_0, bn_1, bn_jz, v_of R, v_nm R, v_ct0 R, v_ct1 R, v_ct2 R, v_ar0 R W, v_ar1 R W, v_ar2 R W, v_dp0 R W, v_dp1 R W, v_dp2 R W, v_kp0 R W, v_kp1 R W, v_kp2 R W, v_gv R W, v_bg R W, v_rn R W, v_sh R W, t_free16 R W]
  cases own
  · simp
  · by_cases h2 : v 51 x = 0
    · simp [h2]
    · have : ¬ nI 1 = nI 0 := by decide
      simp [h2, this]
/-- those who end with p -/
def fll (v : vw) (p : Nat) : Int32 := bts (fun q => isIni v p && decide (v 0 q = 1) && inL v (v 2 q) (v 2 p)) 16 0 (bI p)
theorem t_fall_l {h : jh} {m : Nat} {s : ms} {v : vw} (R : RowV (s 2) v) (W : WFv v) (p : Nat) (hp : p < 16) (L : Nat → Nat → Int32 → Int32 → Int32 → jh → Option (Int32 × jh)) (hL : ∀ f, L (f + 1) = f_X13_fall_h6 (fun y16 h15 => some (y16, h15)) (L f)) : ∀ k i a f, i + k = 16 → k + 1 ≤ f → L f m (nI p) a (nI i) (pm h m s) = some (bts (fun q => isIni v p && decide (v 0 q = 1) && inL v (v 2 q) (v 2 p)) k i a, pm h m s) := by
  have hc := W.c0
  have h1 := W.pr p hp
  intro k
  induction k with
  | zero =>
    intro i a f hi hf
    obtain ⟨f, rfl⟩ : ∃ g, f = g + 1 := ⟨f - 1, by omega⟩
    rw [hL]
    unfold f_X13_fall_h6
    simp (discharger := omega) only [↓al_m, al_lit, al_add, al_mul, bd_some, pm_cV, pm_gR2, bn_0, bn_1, bn_jz, al_le]
    rw [if_pos (by omega), bts]
  | succ k ih =>
    intro i a f hi hf
    obtain ⟨f, rfl⟩ : ∃ g, f = g + 1 := ⟨f - 1, by omega⟩
    rw [hL]
    unfold f_X13_fall_h6
    have h2 := W.pr i (by omega)
    simp (discharger := omega) only [↓al_m, al_lit, al_add, al_mul, bd_some, pm_cV, pm_gR2, bn_0, bn_1, bn_jz, v_of R, v_nm R, v_ct0 R, v_ct1 R, v_ct2 R, v_ar0 R W, v_ar1 R W, v_ar2 R W, v_dp0 R W, v_dp1 R W, v_dp2 R W, v_kp0 R W, v_kp1 R W, v_kp2 R W, v_gv R W, v_bg R W, v_rn R W, v_sh R W, al_le, t_isInit R W, t_there R W, t_within R W, bI_eq]
    rw [if_neg (by omega), bts, ih _ _ f (by omega) (by omega), ih _ _ f (by omega) (by omega)]
    by_cases h3 : isIni v p = true
    · by_cases h4 : v 0 i = 1 <;> by_cases h5 : inL v (v 2 i) (v 2 p) = true <;> simp [h3, h4, h5]
    · have h4 : isIni v p = false := by simpa using h3
      rw [bts_none (fun j => by simp [h4]), bts_none (fun j => by simp [h4])]
      simp only [h4, Bool.false_and, if_true, Bool.false_eq_true, if_false]
      exact congrArg some (Prod.ext (bts_none (fun j => rfl) _ _ _).symm rfl)
theorem t_fall {h : jh} {m : Nat} {s : ms} {v : vw} (R : RowV (s 2) v) (W : WFv v) (p : Nat) (hp : p < 16) : f_X13_fall m (nI p) (pm h m s) = some (fll v p, pm h m s) := by
  obtain ⟨f, hf⟩ := jfu_s
  exact t_fall_l R W p hp _ (fun _ => rfl) 16 0 (bI p) jfu (by omega) (by omega)
def cnkV (v : vw) (p q : Nat) : Bool := decide (q ≠ 0) && sesV v p q && (decide (v 6 p = v 6 q) || ovp v p (v 3 q)) && decide (initV v (v 2 p) ≠ q)
theorem initV_le {v : vw} (W : WFv v) (x : Nat) (hx : x < v 10 0) : initV v x ≤ 16 := by
  have := W.nk x hx
  unfold initV; by_cases h4 : 2 ≤ v 51 x <;> simp [h4]; omega
theorem t_canKill {h : jh} {m : Nat} {s : ms} {v : vw} (R : RowV (s 2) v) (W : WFv v) (p q : Nat) (hp : p < 16) (hq : q < 16) : f_X13_canKill m (nI p) (nI q) (pm h m s) = some (bn (cnkV v p q), pm h m s) := by
  have h1 := W.pr p hp
  have h2 := W.pr q hq
  have h3 := initV_le W (v 2 p) (by omega)
  unfold f_X13_canKill f_X13_canKill_b44 cnkV
  simp (discharger := omega) only [↓al_m, al_lit, al_add, al_mul, bd_some, pm_cV, pm_gR2, bn_0, bn_1, bn_jz, v_of R, v_nm R, v_ct0 R, v_ct1 R, v_ct2 R, v_ar0 R W, v_ar1 R W, v_ar2 R W, v_dp0 R W, v_dp1 R W, v_dp2 R W, v_kp0 R W, v_kp1 R W, v_kp2 R W, v_gv R W, v_bg R W, v_rn R W, v_sh R W, al_eq, t_sees R W, t_isOver R W, t_initOf R W, on_nI]
  by_cases h4 : q = 0
  · simp [h4, bn]
  · cases sesV v p q
    · simp [h4, bn]
    · cases ovp v p (v 3 q) <;> by_cases h5 : v 6 p = v 6 q <;> by_cases h6 : initV v (v 2 p) = q <;> simp [h4, h5, h6, bn]
def cneV (v : vw) (p q kd : Nat) : Bool := decide (p ≠ q) && sesV v p q && (
  if kd = 1 then decide (v 3 p ≠ v 3 q) && ovp v p (v 3 q)
  else if kd = 0 then ovp v p (v 40 (v 2 q)) && inL v (v 2 q) (v 2 p) && decide (v 51 (v 2 q) ≠ 1) && decide (v 5 p ≠ v 2 q)
  else decide (kd = 2) && decide (v 7 p = 1) && decide (v 4 p ≠ v 4 q) && ovp v p (v 42 (v 4 q)))
theorem t_canEnter {h : jh} {m : Nat} {s : ms} {v : vw} (R : RowV (s 2) v) (W : WFv v) (p q kd : Nat) (hp : p < 16) (hq : q < 16) (hk : kd < 100) : f_X13_canEnter m (nI p) (nI q) (nI kd) (pm h m s) = some (bn (cneV v p q kd), pm h m s) := by
  have hc := W.c0
  have hc1 := W.c1
  have hc2 := W.c2
  have h1 := W.pr p hp
  have h2 := W.pr q hq
  have h3 := W.nk (v 2 q) (by omega)
  have h4 := W.mk (v 4 q) (by omega)
  unfold f_X13_canEnter cneV
  simp (discharger := omega) only [↓al_m, al_lit, al_add, al_mul, bd_some, pm_cV, pm_gR2, bn_0, bn_1, bn_jz, v_of R, v_nm R, v_ct0 R, v_ct1 R, v_ct2 R, v_ar0 R W, v_ar1 R W, v_ar2 R W, v_dp0 R W, v_dp1 R W, v_dp2 R W, v_kp0 R W, v_kp1 R W, v_kp2 R W, v_gv R W, v_bg R W, v_rn R W, v_sh R W, al_eq, t_sees R W, t_isOver R W, t_isDead R W, t_within R W]
  by_cases h5 : p = q
  · simp [h5, bn]
  · cases sesV v p q
    · simp [h5, bn]
    · by_cases k1 : kd = 1
      · subst k1
        cases ovp v p (v 3 q) <;> by_cases h6 : v 3 p = v 3 q <;> simp [h5, h6, bn]
      · by_cases k0 : kd = 0
        · subst k0
          cases ovp v p (v 40 (v 2 q)) <;> cases inL v (v 2 q) (v 2 p) <;> by_cases h6 : v 51 (v 2 q) = 1 <;> by_cases h7 : v 5 p = v 2 q <;> simp [h5, h6, h7, bn]
        · by_cases k2 : kd = 2
          · subst k2
            cases ovp v p (v 42 (v 4 q)) <;> by_cases h6 : v 7 p = 1 <;> by_cases h7 : v 4 p = v 4 q <;> simp [h5, h6, h7, bn]
          · simp [h5, k1, k0, k2, bn]
/-- the bits of those that a thing put into a mount space comes to -/
def sprP (v : vw) (a : Int32) (i : Nat) : Bool := hb a (v 22 i) && decide (v 70 (v 22 i) = 1)
def spr (v : vw) : Nat → Nat → Int32 → Int32
  | 0, _, a => a
  | k + 1, i, a => spr v k (i + 1) (if sprP v a i = true then a ||| bI i else a)
def sprd (v : vw) (x : Nat) : Int32 := spr v (v 12 0 - (x + 1)) (x + 1) (bI x)
theorem t_spr_l {h : jh} {m : Nat} {s : ms} {v : vw} (R : RowV (s 2) v) (W : WFv v) (x : Nat) (L : Nat → Nat → Int32 → Int32 → Int32 → jh → Option (Int32 × jh)) (hL : ∀ f, L (f + 1) = f_X13_spreads_h6 (fun y12 h11 => some (y12, h11)) (L f)) : ∀ k i a f, i + k = v 12 0 → x < i → k + 1 ≤ f → L f m (nI x) a (nI i) (pm h m s) = some (spr v k i a, pm h m s) := by
  have hc := W.c2
  intro k
  induction k with
  | zero =>
    intro i a f hi hx hf
    obtain ⟨f, rfl⟩ : ∃ g, f = g + 1 := ⟨f - 1, by omega⟩
    rw [hL]
    unfold f_X13_spreads_h6
    simp (discharger := omega) only [↓al_m, al_lit, al_add, al_mul, bd_some, pm_cV, pm_gR2, bn_0, bn_1, bn_jz, v_of R, v_nm R, v_ct0 R, v_ct1 R, v_ct2 R, v_ar0 R W, v_ar1 R W, v_ar2 R W, v_dp0 R W, v_dp1 R W, v_dp2 R W, v_kp0 R W, v_kp1 R W, v_kp2 R W, v_gv R W, v_bg R W, v_rn R W, v_sh R W, al_le]
    rw [if_pos (by omega), spr]
  | succ k ih =>
    intro i a f hi hx hf
    obtain ⟨f, rfl⟩ : ∃ g, f = g + 1 := ⟨f - 1, by omega⟩
    rw [hL]
    unfold f_X13_spreads_h6
    have hu := W.up2 i (by omega) (by omega)
    have hm := W.mk (v 22 i) (by omega)
    have h0 : ¬ i = 0 := by omega
    simp (discharger := omega) only [↓al_m, al_lit, al_add, al_mul, bd_some, pm_cV, pm_gR2, bn_0, bn_1, bn_jz, v_of R, v_nm R, v_ct0 R, v_ct1 R, v_ct2 R, v_ar0 R W, v_ar1 R W, v_ar2 R W, v_dp0 R W, v_dp1 R W, v_dp2 R W, v_kp0 R W, v_kp1 R W, v_kp2 R W, v_gv R W, v_bg R W, v_rn R W, v_sh R W, al_le, al_eq, bI_eq, h0, if_false, ts_1]
    rw [if_neg (by omega), if_neg (by omega), spr, ih _ _ f (by omega) (by omega) (by omega), ih _ _ f (by omega) (by omega) (by omega)]
    unfold sprP
    by_cases h3 : hb a (v 22 i) = true <;> by_cases h4 : v 70 (v 22 i) = 1 <;> simp [h3, h4]
theorem t_spr_x {h : jh} {m : Nat} {s : ms} {v : vw} (R : RowV (s 2) v) (W : WFv v) (x : Nat) (hx : x < v 12 0) (L : Nat → Nat → Int32 → Int32 → Int32 → jh → Option (Int32 × jh)) (hL : ∀ f, L (f + 1) = f_X13_spreads_h6 (fun y12 h11 => some (y12, h11)) (L f)) (f : Nat) (hf : 10 ≤ f) : L (f + 1) m (nI x) (bI x) (nI x) (pm h m s) = some (sprd v x, pm h m s) := by
  have hc := W.c2
  rw [hL]
  unfold f_X13_spreads_h6
  simp (discharger := omega) only [↓al_m, al_lit, al_add, al_mul, bd_some, pm_cV, pm_gR2, bn_0, bn_1, bn_jz, v_of R, v_nm R, v_ct0 R, v_ct1 R, v_ct2 R, v_ar0 R W, v_ar1 R W, v_ar2 R W, v_dp0 R W, v_dp1 R W, v_dp2 R W, v_kp0 R W, v_kp1 R W, v_kp2 R W, v_gv R W, v_bg R W, v_rn R W, v_sh R W, al_le]
  rw [if_neg (by omega), if_pos (by omega)]
  exact t_spr_l R W x L hL (v 12 0 - (x + 1)) (x + 1) (bI x) f (by omega) (by omega) (by omega)
theorem t_spreads {h : jh} {m : Nat} {s : ms} {v : vw} (R : RowV (s 2) v) (W : WFv v) (x : Nat) (hx : x < v 12 0) : f_X13_spreads m (nI x) (pm h m s) = some (sprd v x, pm h m s) :=
  t_spr_x R W x hx (jlp4 (f_X13_spreads_h6 (fun y12 h11 => some (y12, h11)))) (fun _ => rfl) 99999 (by decide)
