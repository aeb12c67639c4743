/-! the state as numbers: v attribute place; what the reference's row says of it -/
abbrev vw : Type := Nat → Nat → Nat
/-- attributes: 0 there, 1 parent, 2 number space, 3 user space, 4 mount space, 5 children's space, 6 id, 7 power, 8 number (8 p + s); 10 + k how many spaces of a kind; 20 + k the space around (s > 0), 30 + k depth, 40 + k keeper; 50 given last, 51 init (0 none yet, 1 ended, p + 2); 60 ranges, 61 inside, 62 outside, 63 many (3 s + r); 70 shared, 71 thing (8 s + place) -/
def RowV (n : Nat → Int32) (v : vw) : Prop :=
  (∀ p, p < 16 → n (8 * p) = nI (v 0 p)) ∧ (∀ p, p < 16 → v 0 p = 1 → ∀ k, 1 ≤ k → k ≤ 7 → n (8 * p + k) = nI (v k p)) ∧
  (∀ p, p < 16 → v 0 p = 1 → ∀ s, s < v 10 0 → n (128 + (8 * p + s)) = nI (v 8 (8 * p + s))) ∧
  (∀ k, k < 3 → n (592 + k) = nI (v (10 + k) 0)) ∧
  (∀ k, k < 3 → ∀ s, s < v (10 + k) 0 → n (256 + 14 * (8 * k + s)) = (if s = 0 then -1 else nI (v (20 + k) s)) ∧ n (256 + 14 * (8 * k + s) + 1) = nI (v (30 + k) s) ∧ n (256 + 14 * (8 * k + s) + 2) = nI (v (40 + k) s)) ∧
  (∀ s, s < v 10 0 → n (256 + 14 * s + 3) = nI (v 50 s) ∧ n (256 + 14 * s + 5) = nI (if v 51 s = 0 then 0 else 1) ∧ (v 51 s ≠ 0 → n (256 + 14 * s + 4) = if v 51 s = 1 then -1 else nI (v 51 s - 2))) ∧
  (∀ s, s < v 11 0 → n (256 + 14 * (8 + s) + 3) = nI (v 60 s) ∧ ∀ r, r < v 60 s → n (256 + 14 * (8 + s) + 4 + 3 * r) = nI (v 61 (3 * s + r)) ∧ n (256 + 14 * (8 + s) + 4 + 3 * r + 1) = nI (v 62 (3 * s + r)) ∧ n (256 + 14 * (8 + s) + 4 + 3 * r + 2) = nI (v 63 (3 * s + r))) ∧
  (∀ s, s < v 12 0 → n (256 + 14 * (16 + s) + 3) = nI (v 70 s) ∧ ∀ i, i < 8 → n (256 + 14 * (16 + s) + 4 + i) = nI (v 71 (8 * s + i)))
/-- what always holds of it -/
def WFv (v : vw) : Prop :=
  v 0 0 = 1 ∧ (∀ p, p < 16 → v 0 p ≤ 1) ∧ (∀ k, k < 3 → 1 ≤ v (10 + k) 0 ∧ v (10 + k) 0 ≤ 8) ∧
  (∀ p, p < 16 → v 0 p = 1 → v 1 p < 16 ∧ v 2 p < v 10 0 ∧ v 3 p < v 11 0 ∧ v 4 p < v 12 0 ∧ v 5 p < v 10 0 ∧ v 6 p < 100 ∧ v 7 p ≤ 1) ∧
  (∀ p, p < 16 → v 0 p = 1 → ∀ s, s < v 10 0 → v 8 (8 * p + s) ≤ 20) ∧
  (∀ k, k < 3 → ∀ s, 1 ≤ s → s < v (10 + k) 0 → v (20 + k) s < s ∧ v (30 + k) s = v (30 + k) (v (20 + k) s) + 1) ∧
  (∀ k, k < 3 → v (30 + k) 0 = 0 ∧ ∀ s, s < v (10 + k) 0 → v (30 + k) s ≤ 4) ∧
  (∀ s, s < v 10 0 → v 40 s < v 11 0 ∧ 1 ≤ v 50 s ∧ v 50 s ≤ 20 ∧ v 51 s ≤ 17) ∧
  (∀ s, s < v 11 0 → v 41 s < 100 ∧ v 60 s ≤ 3 ∧ ∀ r, r < v 60 s → 1 ≤ v 63 (3 * s + r) ∧ v 61 (3 * s + r) + v 63 (3 * s + r) ≤ 100 ∧ v 62 (3 * s + r) + v 63 (3 * s + r) ≤ 100) ∧
  (∀ s, s < v 12 0 → v 42 s < v 11 0 ∧ v 70 s ≤ 1 ∧ ∀ i, i < 8 → v 71 (8 * s + i) < 100)
/-- truth as a number -/
def bn (b : Bool) : Int32 := if b then 1 else 0
