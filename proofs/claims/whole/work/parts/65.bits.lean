/-! bits of a number -/
def hb (x : Int32) (i : Nat) : Bool := x.toBitVec.getLsbD i
def bI (i : Nat) : Int32 := nI 1 <<< (nI i &&& nI 31)
theorem hb_ext {x y : Int32} (h : ∀ i, i < 32 → hb x i = hb y i) : x = y := by
  apply Int32.toBitVec_inj.mp
  apply BitVec.eq_of_getLsbD_eq
  intro i hi
  exact h i hi
theorem hb_or (x y : Int32) (i : Nat) : hb (x ||| y) i = (hb x i || hb y i) := by
  unfold hb
  rw [Int32.toBitVec_or, BitVec.getLsbD_or]
theorem hb_and (x y : Int32) (i : Nat) : hb (x &&& y) i = (hb x i && hb y i) := by
  unfold hb
  rw [Int32.toBitVec_and, BitVec.getLsbD_and]
theorem hb_xor (x y : Int32) (i : Nat) : hb (x ^^^ y) i = (hb x i ^^ hb y i) := by
  unfold hb
  rw [Int32.toBitVec_xor, BitVec.getLsbD_xor]
theorem hb_m1 (i : Nat) (hi : i < 32) : hb (-1) i = true := by
  have : ∀ i : Fin 32, hb (-1) i.1 = true := by decide
  exact this ⟨i, hi⟩
theorem hb_0 (i : Nat) : hb (nI 0) i = false := by
  show (0#32).getLsbD i = false
  exact BitVec.getLsbD_zero
theorem hb_bI (i j : Nat) (hi : i < 32) (hj : j < 32) : hb (bI i) j = decide (j = i) := by
  have : ∀ i : Fin 32, ∀ j : Fin 32, hb (bI i.1) j.1 = decide (j.1 = i.1) := by decide
  exact this ⟨i, hi⟩ ⟨j, hj⟩
theorem hb_1 (j : Nat) (hj : j < 32) : hb (nI 1) j = decide (j = 0) := by
  have : ∀ j : Fin 32, hb (nI 1) j.1 = decide (j.1 = 0) := by decide
  exact this ⟨j, hj⟩
theorem hb_low (y : Int32) : (y &&& nI 1 = nI 1) = (hb y 0 = true) := by
  apply propext
  constructor
  · intro h
    have := congrArg (fun z => hb z 0) h
    simp only [hb_and, hb_1 0 (by decide)] at this
    simpa using this
  · intro h
    apply hb_ext
    intro i hi
    rw [hb_and, hb_1 i hi]
    by_cases h0 : i = 0
    · subst h0; simp [h]
    · simp [h0]
theorem hb_low0 (y : Int32) : (y &&& nI 1 = nI 0) = (hb y 0 = false) := by
  apply propext
  constructor
  · intro h
    have := congrArg (fun z => hb z 0) h
    simp only [hb_and, hb_1 0 (by decide), hb_0] at this
    simpa using this
  · intro h
    apply hb_ext
    intro i hi
    rw [hb_and, hb_1 i hi, hb_0]
    by_cases h0 : i = 0
    · subst h0; simp [h]
    · simp [h0]
theorem hb_sar (x : Int32) (i : Nat) (hi : i < 32) : hb (x >>> (nI i &&& nI 31)) 0 = hb x i := by
  have e : ∀ i : Fin 32, ((nI i.1 &&& nI 31).toBitVec.smod 32).toNat = i.1 := by decide
  unfold hb
  rw [Int32.toBitVec_shiftRight, BitVec.sshiftRight', e ⟨i, hi⟩, BitVec.getLsbD_sshiftRight]
  simp [hi]
theorem hb_shr (x : Int32) (i : Nat) (hi : i < 32) : hb (x.toUInt32 >>> ((nI i).toUInt32 &&& Int32.toUInt32 (nI 31))).toInt32 0 = hb x i := by
  have e : ∀ i : Fin 32, (((nI i.1).toUInt32 &&& Int32.toUInt32 (nI 31)).toBitVec % 32#32).toNat = i.1 := by decide
  unfold hb
  show (x.toUInt32 >>> ((nI i).toUInt32 &&& Int32.toUInt32 (nI 31))).toBitVec.getLsbD 0 = _
  rw [UInt32.toBitVec_shiftRight]
  show (x.toUInt32.toBitVec >>> ((((nI i).toUInt32 &&& Int32.toUInt32 (nI 31)).toBitVec % 32#32)).toNat).getLsbD 0 = _
  rw [e ⟨i, hi⟩, BitVec.getLsbD_ushiftRight, Nat.add_zero]
  rfl
theorem ts_1 (x : Int32) (i : Nat) (hi : i < 32) : ((x >>> (nI i &&& nI 31)) &&& nI 1 = nI 1) = (hb x i = true) := by rw [hb_low, hb_sar x i hi]
theorem ts_0 (x : Int32) (i : Nat) (hi : i < 32) : ((x >>> (nI i &&& nI 31)) &&& nI 1 = nI 0) = (hb x i = false) := by rw [hb_low0, hb_sar x i hi]
theorem tu_0 (x : Int32) (i : Nat) (hi : i < 32) : (((x.toUInt32 >>> ((nI i).toUInt32 &&& Int32.toUInt32 (nI 31))).toInt32) &&& nI 1 = nI 0) = (hb x i = false) := by rw [hb_low0, hb_shr x i hi]
theorem bI_eq (i : Nat) : nI 1 <<< (nI i &&& nI 31) = bI i := rfl
/-- the bits of those that P holds of -/
def bts (P : Nat → Bool) : Nat → Nat → Int32 → Int32
  | 0, _, a => a
  | k + 1, i, a => bts P k (i + 1) (if P i = true then a ||| bI i else a)
theorem bts_hb (P : Nat → Bool) : ∀ k i a, i + k ≤ 32 → ∀ j, j < 32 → hb (bts P k i a) j = (hb a j || (decide (i ≤ j ∧ j < i + k) && P j)) := by
  intro k
  induction k with
  | zero =>
    intro i a h j hj
    have : decide (i ≤ j ∧ j < i + 0) = false := decide_eq_false (by omega)
    simp only [bts, this, Bool.false_and, Bool.or_false]
  | succ k ih =>
    intro i a h j hj
    rw [bts, ih (i + 1) _ (by omega) j hj]
    by_cases h1 : P i = true
    · rw [if_pos h1, hb_or, hb_bI i j (by omega) hj]
      by_cases h2 : j = i
      · subst h2; simp [h1]
      · by_cases h3 : i ≤ j ∧ j < i + (k + 1)
        · have h4 : i + 1 ≤ j ∧ j < i + 1 + k := by omega
          simp [h2, h3, h4]
        · have h4 : ¬ (i + 1 ≤ j ∧ j < i + 1 + k) := by omega
          simp only [h2, h3, h4, decide_false, Bool.or_false, Bool.false_and]
    · rw [if_neg h1]
      by_cases h2 : j = i
      · subst h2; simp [h1]
      · by_cases h3 : i ≤ j ∧ j < i + (k + 1)
        · have h4 : i + 1 ≤ j ∧ j < i + 1 + k := by omega
          simp [h3, h4]
        · have h4 : ¬ (i + 1 ≤ j ∧ j < i + 1 + k) := by omega
          simp only [h3, h4, decide_false, Bool.or_false, Bool.false_and]
theorem bts_none {P : Nat → Bool} (hP : ∀ j, P j = false) : ∀ k i a, bts P k i a = a := by
  intro k
  induction k with
  | zero => intros; rfl
  | succ k ih => intro i a; rw [bts, hP i, ih]; rfl
theorem bts_eq {P Q : Nat → Bool} : ∀ k i a, (∀ j, i ≤ j → j < i + k → P j = Q j) → bts P k i a = bts Q k i a := by
  intro k
  induction k with
  | zero => intros; rfl
  | succ k ih =>
    intro i a h
    rw [bts, bts, h i (by omega) (by omega), ih (i + 1) _ (fun j h1 h2 => h j (by omega) (by omega))]
/-- the first that P holds of -/
def ff (P : Nat → Bool) : Nat → Nat → Nat
  | 0, i => i
  | k + 1, i => if P i = true then i else ff P k (i + 1)
theorem ff_le (P : Nat → Bool) : ∀ k i, i ≤ ff P k i ∧ ff P k i ≤ i + k := by
  intro k
  induction k with
  | zero => intro i; exact ⟨Nat.le_refl i, Nat.le_refl i⟩
  | succ k ih =>
    intro i
    rw [ff]
    by_cases h : P i = true
    · rw [if_pos h]; omega
    · rw [if_neg h]; have := ih (i + 1); omega
theorem ff_P (P : Nat → Bool) : ∀ k i, ff P k i < i + k → P (ff P k i) = true := by
  intro k
  induction k with
  | zero => intro i h; rw [ff] at h; omega
  | succ k ih =>
    intro i
    rw [ff]
    by_cases h : P i = true
    · rw [if_pos h]; intro _; exact h
    · rw [if_neg h]; intro h2; exact ih (i + 1) (by omega)
theorem ff_no (P : Nat → Bool) : ∀ k i, ff P k i = i + k → ∀ j, i ≤ j → j < i + k → P j = false := by
  intro k
  induction k with
  | zero => intro i h j h1 h2; omega
  | succ k ih =>
    intro i
    rw [ff]
    by_cases h : P i = true
    · rw [if_pos h]; intro h1; omega
    · rw [if_neg h]
      intro h1 j h2 h3
      by_cases h4 : j = i
      · subst h4; simpa using h
      · exact ih (i + 1) (by omega) j (by omega) (by omega)
theorem ff_eq {P Q : Nat → Bool} : ∀ k i, (∀ j, i ≤ j → j < i + k → P j = Q j) → ff P k i = ff Q k i := by
  intro k
  induction k with
  | zero => intros; rfl
  | succ k ih =>
    intro i h
    rw [ff, ff, h i (by omega) (by omega), ih (i + 1) (fun j h1 h2 => h j (by omega) (by omega))]
/-- how many P holds of -/
def cnt (P : Nat → Bool) : Nat → Nat → Nat
  | 0, _ => 0
  | k + 1, i => (if P i = true then 1 else 0) + cnt P k (i + 1)
theorem cnt_le (P : Nat → Bool) : ∀ k i, cnt P k i ≤ k := by
  intro k
  induction k with
  | zero => intro i; exact Nat.le_refl 0
  | succ k ih =>
    intro i
    rw [cnt]
    have := ih (i + 1)
    by_cases h : P i = true
    · rw [if_pos h]; omega
    · rw [if_neg h]; omega
theorem cnt_eq {P Q : Nat → Bool} : ∀ k i, (∀ j, i ≤ j → j < i + k → P j = Q j) → cnt P k i = cnt Q k i := by
  intro k
  induction k with
  | zero => intros; rfl
  | succ k ih =>
    intro i h
    rw [cnt, cnt, h i (by omega) (by omega), ih (i + 1) (fun j h1 h2 => h j (by omega) (by omega))]
