/-! the reference's small functions -/
theorem r_isIn (v a b : Int32) (h : jh) : f_X13_isIn v a b h = some (bn (decide (a ≤ v ∧ v ≤ b)), h) := by
  unfold f_X13_isIn bn
  by_cases h1 : v < a
  · have h2 : ¬ a ≤ v := Int32.not_le.mpr h1
    simp [h1, h2, al_0]
  · have h2 : a ≤ v := Int32.not_lt.mp h1
    by_cases h3 : b < v
    · have h4 : ¬ v ≤ b := Int32.not_le.mpr h3
      simp [h1, h2, h3, h4, al_0, al_1]
    · have h4 : v ≤ b := Int32.not_lt.mp h3
      simp [h1, h2, h3, h4, al_0, al_1]
theorem r_spaceAt (k s : Nat) (h : jh) : f_X13_spaceAt (nI k) (nI s) h = some (nI (256 + 14 * (8 * k + s)), h) := by
  unfold f_X13_spaceAt
  simp only [al_lit, al_add, al_mul]
theorem r_processAt (p k : Nat) (h : jh) : f_X13_processAt (nI p) (nI k) h = some (nI (8 * p + k), h) := by
  unfold f_X13_processAt
  simp only [al_lit, al_add, al_mul]
theorem r_numberAt (p s : Nat) (h : jh) : f_X13_numberAt (nI p) (nI s) h = some (nI (128 + (8 * p + s)), h) := by
  unfold f_X13_numberAt
  simp only [al_lit, al_add, al_mul, Nat.add_assoc]
theorem r_of {h : jh} {m : Nat} {s : ms} (p k : Nat) (hk : 8 * p + k < 595) : f_X13_of m (nI p) (nI k) (pm h m s) = some (s 2 (8 * p + k), pm h m s) := by
  unfold f_X13_of
  simp only [pm_gR2, al_lit, al_add, al_mul]
  rw [rd2 _ _ _ _ _ hk]
theorem r_many {h : jh} {m : Nat} {s : ms} (k : Nat) (hk : k < 3) : f_X13_many m (nI k) (pm h m s) = some (s 2 (592 + k), pm h m s) := by
  unfold f_X13_many
  simp only [pm_gR2, al_lit, al_add, al_mul]
  rw [rd2 _ _ _ _ _ (by omega)]
theorem r_spaceOf {h : jh} {m : Nat} {s : ms} (k x j : Nat) (hk : 256 + 14 * (8 * k + x) + j < 595) : f_X13_spaceOf m (nI k) (nI x) (nI j) (pm h m s) = some (s 2 (256 + 14 * (8 * k + x) + j), pm h m s) := by
  unfold f_X13_spaceOf
  simp only [pm_gR2, r_spaceAt, bd_some, al_add]
  rw [rd2 _ _ _ _ _ hk]
theorem r_numberOf {h : jh} {m : Nat} {s : ms} (p x : Nat) (hk : 128 + (8 * p + x) < 595) : f_X13_numberOf m (nI p) (nI x) (pm h m s) = some (s 2 (128 + (8 * p + x)), pm h m s) := by
  unfold f_X13_numberOf
  simp only [pm_gR2, r_numberAt, bd_some]
  rw [rd2 _ _ _ _ _ hk]
