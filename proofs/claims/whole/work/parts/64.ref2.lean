/-! the reference's rows read as the state v -/
theorem i_cases (x : Int32) (N : Nat) (hN : N < 2147483648) : (∃ n, n < N ∧ x = nI n) ∨ (x < 0 ∨ nI N ≤ x) := by
  by_cases h0 : x < 0
  · exact Or.inr (Or.inl h0)
  · by_cases h1 : nI N ≤ x
    · exact Or.inr (Or.inr h1)
    · refine Or.inl ⟨x.toInt.toNat, ?_, ?_⟩
      · rw [Int32.lt_iff_toInt_lt] at h0
        rw [Int32.le_iff_toInt_le, nI_toInt (by omega)] at h1
        have : (0 : Int32).toInt = 0 := by decide
        omega
      · rw [Int32.lt_iff_toInt_lt] at h0
        have : (0 : Int32).toInt = 0 := by decide
        apply Int32.toInt_inj.mp
        rw [Int32.le_iff_toInt_le, nI_toInt (by omega)] at h1
        rw [nI_toInt (by omega)]
        omega
theorem v_of {h : jh} {m : Nat} {s : ms} {v : vw} (R : RowV (s 2) v) (p k : Nat) (hp : p < 16) (hk : k < 8) : f_X13_of m (nI p) (nI k) (pm h m s) = some (nI (v k p), pm h m s) := by
  rw [r_of p k (by omega), R.pr p k hp hk]
theorem v_nm {h : jh} {m : Nat} {s : ms} {v : vw} (R : RowV (s 2) v) (p x : Nat) (hp : p < 16) (hx : x < 8) : f_X13_numberOf m (nI p) (nI x) (pm h m s) = some (nI (v 8 (8 * p + x)), pm h m s) := by
  rw [r_numberOf p x (by omega), R.nm p x hp hx]
theorem v_ct0 {h : jh} {m : Nat} {s : ms} {v : vw} (R : RowV (s 2) v) : f_X13_many m (nI 0) (pm h m s) = some (nI (v 10 0), pm h m s) := by
  rw [r_many 0 (by decide), R.ct 0 (by decide)]
theorem v_ar0 {h : jh} {m : Nat} {s : ms} {v : vw} (R : RowV (s 2) v) (W : WFv v) (x : Nat) (hx : x < v 10 0) : f_X13_spaceOf m (nI 0) (nI x) (nI 0) (pm h m s) = some (if x = 0 then nm1 else nI (v 20 x), pm h m s) := by
  have := W.c0
  rw [r_spaceOf 0 x 0 (by omega), R.ar 0 x (by decide) hx]
theorem v_dp0 {h : jh} {m : Nat} {s : ms} {v : vw} (R : RowV (s 2) v) (W : WFv v) (x : Nat) (hx : x < v 10 0) : f_X13_spaceOf m (nI 0) (nI x) (nI 1) (pm h m s) = some (nI (v 30 x), pm h m s) := by
  have := W.c0
  rw [r_spaceOf 0 x 1 (by omega), R.dp 0 x (by decide) hx]
theorem v_kp0 {h : jh} {m : Nat} {s : ms} {v : vw} (R : RowV (s 2) v) (W : WFv v) (x : Nat) (hx : x < v 10 0) : f_X13_spaceOf m (nI 0) (nI x) (nI 2) (pm h m s) = some (nI (v 40 x), pm h m s) := by
  have := W.c0
  rw [r_spaceOf 0 x 2 (by omega), R.kp 0 x (by decide) hx]
theorem v_ct1 {h : jh} {m : Nat} {s : ms} {v : vw} (R : RowV (s 2) v) : f_X13_many m (nI 1) (pm h m s) = some (nI (v 11 0), pm h m s) := by
  rw [r_many 1 (by decide), R.ct 1 (by decide)]
theorem v_ar1 {h : jh} {m : Nat} {s : ms} {v : vw} (R : RowV (s 2) v) (W : WFv v) (x : Nat) (hx : x < v 11 0) : f_X13_spaceOf m (nI 1) (nI x) (nI 0) (pm h m s) = some (if x = 0 then nm1 else nI (v 21 x), pm h m s) := by
  have := W.c1
  rw [r_spaceOf 1 x 0 (by omega), R.ar 1 x (by decide) hx]
theorem v_dp1 {h : jh} {m : Nat} {s : ms} {v : vw} (R : RowV (s 2) v) (W : WFv v) (x : Nat) (hx : x < v 11 0) : f_X13_spaceOf m (nI 1) (nI x) (nI 1) (pm h m s) = some (nI (v 31 x), pm h m s) := by
  have := W.c1
  rw [r_spaceOf 1 x 1 (by omega), R.dp 1 x (by decide) hx]
theorem v_kp1 {h : jh} {m : Nat} {s : ms} {v : vw} (R : RowV (s 2) v) (W : WFv v) (x : Nat) (hx : x < v 11 0) : f_X13_spaceOf m (nI 1) (nI x) (nI 2) (pm h m s) = some (nI (v 41 x), pm h m s) := by
  have := W.c1
  rw [r_spaceOf 1 x 2 (by omega), R.kp 1 x (by decide) hx]
theorem v_ct2 {h : jh} {m : Nat} {s : ms} {v : vw} (R : RowV (s 2) v) : f_X13_many m (nI 2) (pm h m s) = some (nI (v 12 0), pm h m s) := by
  rw [r_many 2 (by decide), R.ct 2 (by decide)]
theorem v_ar2 {h : jh} {m : Nat} {s : ms} {v : vw} (R : RowV (s 2) v) (W : WFv v) (x : Nat) (hx : x < v 12 0) : f_X13_spaceOf m (nI 2) (nI x) (nI 0) (pm h m s) = some (if x = 0 then nm1 else nI (v 22 x), pm h m s) := by
  have := W.c2
  rw [r_spaceOf 2 x 0 (by omega), R.ar 2 x (by decide) hx]
theorem v_dp2 {h : jh} {m : Nat} {s : ms} {v : vw} (R : RowV (s 2) v) (W : WFv v) (x : Nat) (hx : x < v 12 0) : f_X13_spaceOf m (nI 2) (nI x) (nI 1) (pm h m s) = some (nI (v 32 x), pm h m s) := by
  have := W.c2
  rw [r_spaceOf 2 x 1 (by omega), R.dp 2 x (by decide) hx]
theorem v_kp2 {h : jh} {m : Nat} {s : ms} {v : vw} (R : RowV (s 2) v) (W : WFv v) (x : Nat) (hx : x < v 12 0) : f_X13_spaceOf m (nI 2) (nI x) (nI 2) (pm h m s) = some (nI (v 42 x), pm h m s) := by
  have := W.c2
  rw [r_spaceOf 2 x 2 (by omega), R.kp 2 x (by decide) hx]
theorem v_gv {h : jh} {m : Nat} {s : ms} {v : vw} (R : RowV (s 2) v) (W : WFv v) (x : Nat) (hx : x < v 10 0) : f_X13_spaceOf m (nI 0) (nI x) (nI 3) (pm h m s) = some (nI (v 50 x), pm h m s) := by
  have := W.c0
  rw [r_spaceOf 0 x 3 (by omega), R.gv x hx]
theorem v_bg {h : jh} {m : Nat} {s : ms} {v : vw} (R : RowV (s 2) v) (W : WFv v) (x : Nat) (hx : x < v 10 0) : f_X13_spaceOf m (nI 0) (nI x) (nI 5) (pm h m s) = some (nI (if v 51 x = 0 then 0 else 1), pm h m s) := by
  have := W.c0
  rw [r_spaceOf 0 x 5 (by omega), R.bg x hx]
theorem v_rn {h : jh} {m : Nat} {s : ms} {v : vw} (R : RowV (s 2) v) (W : WFv v) (x : Nat) (hx : x < v 11 0) : f_X13_spaceOf m (nI 1) (nI x) (nI 3) (pm h m s) = some (nI (v 60 x), pm h m s) := by
  have := W.c1
  rw [r_spaceOf 1 x 3 (by omega), R.rn x hx]
theorem v_sh {h : jh} {m : Nat} {s : ms} {v : vw} (R : RowV (s 2) v) (W : WFv v) (x : Nat) (hx : x < v 12 0) : f_X13_spaceOf m (nI 2) (nI x) (nI 3) (pm h m s) = some (nI (v 70 x), pm h m s) := by
  have := W.c2
  rw [r_spaceOf 2 x 3 (by omega), R.sh x hx]
theorem v_it {h : jh} {m : Nat} {s : ms} {v : vw} (R : RowV (s 2) v) (W : WFv v) (x : Nat) (hx : x < v 10 0) (h0 : v 51 x ≠ 0) : f_X13_spaceOf m (nI 0) (nI x) (nI 4) (pm h m s) = some (if v 51 x = 1 then nm1 else nI (v 51 x - 2), pm h m s) := by
  have := W.c0
  rw [r_spaceOf 0 x 4 (by omega), R.it x hx h0]
theorem v_tg {h : jh} {m : Nat} {s : ms} {v : vw} (R : RowV (s 2) v) (W : WFv v) (x i : Nat) (hx : x < v 12 0) (hi : i < 8) : f_X13_spaceOf m (nI 2) (nI x) (nI (4 + i)) (pm h m s) = some (nI (v 71 (8 * x + i)), pm h m s) := by
  have := W.c2
  rw [r_spaceOf 2 x (4 + i) (by omega), R.tg x i hx hi]
theorem r_rangeAt {h : jh} {m : Nat} (x r : Nat) : f_X13_rangeAt m (nI x) (nI r) h = some (nI (256 + 14 * (8 * 1 + x) + 4 + 3 * r), h) := by
  unfold f_X13_rangeAt
  simp only [al_lit, r_spaceAt, bd_some, al_add, al_mul]
theorem t_there {h : jh} {m : Nat} {s : ms} {v : vw} (R : RowV (s 2) v) (W : WFv v) (p : Nat) (hp : p < 16) : f_X13_isThere m (nI p) (pm h m s) = some (bn (decide (v 0 p = 1)), pm h m s) := by
  have h1 := W.th p hp
  unfold f_X13_isThere
  simp (discharger := omega) only [↓al_m, al_lit, al_add, al_mul, bd_some, pm_cV, pm_gR2, bn_0, bn_1, bn_jz, v_of R, v_nm R, v_ct0 R, v_ct1 R, v_ct2 R, v_ar0 R W, v_ar1 R W, v_ar2 R W, v_dp0 R W, v_dp1 R W, v_dp2 R W, v_kp0 R W, v_kp1 R W, v_kp2 R W, v_gv R W, v_bg R W, v_rn R W, v_sh R W, r_isIn, al_le, al_eq]
  by_cases h2 : v 0 p = 1 <;> simp [h2, bn]; omega
theorem t_there' {h : jh} {m : Nat} (x : Int32) (hx : x < 0 ∨ nI 16 ≤ x) : f_X13_isThere m x h = some (bn false, h) := by
  unfold f_X13_isThere
  rw [r_isIn, bd_some]
  have : decide (0 ≤ x ∧ x ≤ 15) = false := by
    apply decide_eq_false
    rintro ⟨h1, h2⟩
    rcases hx with h3 | h3
    · exact absurd h3 (Int32.not_lt.mpr h1)
    · exact absurd (Int32.le_trans h3 h2) (by decide)
  rw [this]
  rfl

