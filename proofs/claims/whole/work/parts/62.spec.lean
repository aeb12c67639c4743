def nm1 : Int32 := -1
theorem al_m : (-1 : Int32) = nm1 := id rfl
/-! the state as numbers: v attribute place; what the reference's row says of it -/
abbrev vw : Type := Nat → Nat → Nat
/-- the chain of a space: itself, the one around it, .. down to 0 -/
def cc (par : Nat → Nat) : Nat → Nat → List Nat
  | 0, _ => []
  | n + 1, s => s :: (if s = 0 then [] else cc par n (par s))
def ch (v : vw) (k s : Nat) : List Nat := cc (v (20 + k)) 8 s
theorem cc_irr (par : Nat → Nat) : ∀ n m s, s < n → s < m → (∀ t, 1 ≤ t → t ≤ s → par t < t) → cc par n s = cc par m s := by
  intro n
  induction n with
  | zero => intro m s h; omega
  | succ n ih =>
    intro m s h1 h2 hp
    cases m with
    | zero => omega
    | succ m =>
      unfold cc
      by_cases hs : s = 0
      · simp [hs]
      · have := hp s (by omega) (Nat.le_refl s)
        rw [if_neg hs, if_neg hs, ih m (par s) (by omega) (by omega) (fun t h3 h4 => hp t h3 (by omega))]
/-- attributes: 0 there, 1 parent, 2 number space, 3 user space, 4 mount space, 5 children's space, 6 id, 7 power, 8 number (8 p + s); 10 + k how many spaces of a kind; 20 + k the space around (s > 0), 30 + k depth, 40 + k keeper; 50 given last, 51 init (0 none yet, 1 ended, p + 2); 60 ranges, 61 inside, 62 outside, 63 many (3 s + r); 70 shared, 71 thing (8 s + place) -/
def RowV (n : Nat → Int32) (v : vw) : Prop :=
  (∀ p k, p < 16 → k < 8 → n (8 * p + k) = nI (v k p)) ∧
  (∀ p s, p < 16 → s < 8 → n (128 + (8 * p + s)) = nI (v 8 (8 * p + s))) ∧
  (∀ k, k < 3 → n (592 + k) = nI (v (10 + k) 0)) ∧
  (∀ k s, k < 3 → s < v (10 + k) 0 → n (256 + 14 * (8 * k + s) + 0) = if s = 0 then nm1 else nI (v (20 + k) s)) ∧
  (∀ k s, k < 3 → s < v (10 + k) 0 → n (256 + 14 * (8 * k + s) + 1) = nI (v (30 + k) s)) ∧
  (∀ k s, k < 3 → s < v (10 + k) 0 → n (256 + 14 * (8 * k + s) + 2) = nI (v (40 + k) s)) ∧
  (∀ s, s < v 10 0 → n (256 + 14 * (8 * 0 + s) + 3) = nI (v 50 s)) ∧
  (∀ s, s < v 10 0 → n (256 + 14 * (8 * 0 + s) + 5) = nI (if v 51 s = 0 then 0 else 1)) ∧
  (∀ s, s < v 10 0 → v 51 s ≠ 0 → n (256 + 14 * (8 * 0 + s) + 4) = if v 51 s = 1 then nm1 else nI (v 51 s - 2)) ∧
  (∀ s, s < v 11 0 → n (256 + 14 * (8 * 1 + s) + 3) = nI (v 60 s)) ∧
  (∀ s r, s < v 11 0 → r < v 60 s → n (256 + 14 * (8 * 1 + s) + 4 + 3 * r) = nI (v 61 (3 * s + r))) ∧
  (∀ s r, s < v 11 0 → r < v 60 s → n (256 + 14 * (8 * 1 + s) + 4 + 3 * r + 1) = nI (v 62 (3 * s + r))) ∧
  (∀ s r, s < v 11 0 → r < v 60 s → n (256 + 14 * (8 * 1 + s) + 4 + 3 * r + 2) = nI (v 63 (3 * s + r))) ∧
  (∀ s, s < v 12 0 → n (256 + 14 * (8 * 2 + s) + 3) = nI (v 70 s)) ∧
  (∀ s i, s < v 12 0 → i < 8 → n (256 + 14 * (8 * 2 + s) + (4 + i)) = nI (v 71 (8 * s + i)))
theorem RowV.pr {n : Nat → Int32} {v : vw} (R : RowV n v) : ∀ p k, p < 16 → k < 8 → n (8 * p + k) = nI (v k p) := R.1
theorem RowV.nm {n : Nat → Int32} {v : vw} (R : RowV n v) : ∀ p s, p < 16 → s < 8 → n (128 + (8 * p + s)) = nI (v 8 (8 * p + s)) := R.2.1
theorem RowV.ct {n : Nat → Int32} {v : vw} (R : RowV n v) : ∀ k, k < 3 → n (592 + k) = nI (v (10 + k) 0) := R.2.2.1
theorem RowV.ar {n : Nat → Int32} {v : vw} (R : RowV n v) : ∀ k s, k < 3 → s < v (10 + k) 0 → n (256 + 14 * (8 * k + s) + 0) = if s = 0 then nm1 else nI (v (20 + k) s) := R.2.2.2.1
theorem RowV.dp {n : Nat → Int32} {v : vw} (R : RowV n v) : ∀ k s, k < 3 → s < v (10 + k) 0 → n (256 + 14 * (8 * k + s) + 1) = nI (v (30 + k) s) := R.2.2.2.2.1
theorem RowV.kp {n : Nat → Int32} {v : vw} (R : RowV n v) : ∀ k s, k < 3 → s < v (10 + k) 0 → n (256 + 14 * (8 * k + s) + 2) = nI (v (40 + k) s) := R.2.2.2.2.2.1
theorem RowV.gv {n : Nat → Int32} {v : vw} (R : RowV n v) : ∀ s, s < v 10 0 → n (256 + 14 * (8 * 0 + s) + 3) = nI (v 50 s) := R.2.2.2.2.2.2.1
theorem RowV.bg {n : Nat → Int32} {v : vw} (R : RowV n v) : ∀ s, s < v 10 0 → n (256 + 14 * (8 * 0 + s) + 5) = nI (if v 51 s = 0 then 0 else 1) := R.2.2.2.2.2.2.2.1
theorem RowV.it {n : Nat → Int32} {v : vw} (R : RowV n v) : ∀ s, s < v 10 0 → v 51 s ≠ 0 → n (256 + 14 * (8 * 0 + s) + 4) = if v 51 s = 1 then nm1 else nI (v 51 s - 2) := R.2.2.2.2.2.2.2.2.1
theorem RowV.rn {n : Nat → Int32} {v : vw} (R : RowV n v) : ∀ s, s < v 11 0 → n (256 + 14 * (8 * 1 + s) + 3) = nI (v 60 s) := R.2.2.2.2.2.2.2.2.2.1
theorem RowV.ri {n : Nat → Int32} {v : vw} (R : RowV n v) : ∀ s r, s < v 11 0 → r < v 60 s → n (256 + 14 * (8 * 1 + s) + 4 + 3 * r) = nI (v 61 (3 * s + r)) := R.2.2.2.2.2.2.2.2.2.2.1
theorem RowV.ro {n : Nat → Int32} {v : vw} (R : RowV n v) : ∀ s r, s < v 11 0 → r < v 60 s → n (256 + 14 * (8 * 1 + s) + 4 + 3 * r + 1) = nI (v 62 (3 * s + r)) := R.2.2.2.2.2.2.2.2.2.2.2.1
theorem RowV.rm {n : Nat → Int32} {v : vw} (R : RowV n v) : ∀ s r, s < v 11 0 → r < v 60 s → n (256 + 14 * (8 * 1 + s) + 4 + 3 * r + 2) = nI (v 63 (3 * s + r)) := R.2.2.2.2.2.2.2.2.2.2.2.2.1
theorem RowV.sh {n : Nat → Int32} {v : vw} (R : RowV n v) : ∀ s, s < v 12 0 → n (256 + 14 * (8 * 2 + s) + 3) = nI (v 70 s) := R.2.2.2.2.2.2.2.2.2.2.2.2.2.1
theorem RowV.tg {n : Nat → Int32} {v : vw} (R : RowV n v) : ∀ s i, s < v 12 0 → i < 8 → n (256 + 14 * (8 * 2 + s) + (4 + i)) = nI (v 71 (8 * s + i)) := R.2.2.2.2.2.2.2.2.2.2.2.2.2.2
/-- what always holds of it -/
def WFv (v : vw) : Prop :=
  (∀ p, p < 16 → v 0 p ≤ 1) ∧
  (∀ k, k < 3 → 1 ≤ v (10 + k) 0 ∧ v (10 + k) 0 ≤ 8) ∧
  (∀ p, p < 16 → v 1 p < 16 ∧ v 2 p < v 10 0 ∧ v 3 p < v 11 0 ∧ v 4 p < v 12 0 ∧ v 5 p < v 10 0 ∧ v 6 p < 100 ∧ v 7 p ≤ 1) ∧
  (∀ p s, p < 16 → s < 8 → v 8 (8 * p + s) ≤ 20) ∧
  (∀ k s, k < 3 → 1 ≤ s → s < v (10 + k) 0 → v (20 + k) s < s) ∧
  (∀ k s, k < 3 → 1 ≤ s → s < v (10 + k) 0 → v (30 + k) s = v (30 + k) (v (20 + k) s) + 1) ∧
  (∀ k, k < 3 → v (30 + k) 0 = 0) ∧
  (∀ k s, k < 3 → s < v (10 + k) 0 → v (30 + k) s ≤ 4) ∧
  (∀ s, s < v 10 0 → v 40 s < v 11 0 ∧ 1 ≤ v 50 s ∧ v 50 s ≤ 20 ∧ v 51 s ≤ 17 ∧ (v 51 s = 0 → v 50 s = 1)) ∧
  (∀ s, s < v 11 0 → v 41 s < 100 ∧ v 60 s ≤ 3) ∧
  (∀ s r, s < v 11 0 → r < v 60 s → 1 ≤ v 63 (3 * s + r) ∧ v 61 (3 * s + r) + v 63 (3 * s + r) ≤ 100 ∧ v 62 (3 * s + r) + v 63 (3 * s + r) ≤ 100) ∧
  (∀ s, s < v 12 0 → v 42 s < v 11 0 ∧ v 70 s ≤ 1) ∧
  (∀ s i, s < v 12 0 → i < 8 → v 71 (8 * s + i) < 100)
theorem WFv.th {v : vw} (R : WFv v) : ∀ p, p < 16 → v 0 p ≤ 1 := R.1
theorem WFv.ct {v : vw} (R : WFv v) : ∀ k, k < 3 → 1 ≤ v (10 + k) 0 ∧ v (10 + k) 0 ≤ 8 := R.2.1
theorem WFv.pr {v : vw} (R : WFv v) : ∀ p, p < 16 → v 1 p < 16 ∧ v 2 p < v 10 0 ∧ v 3 p < v 11 0 ∧ v 4 p < v 12 0 ∧ v 5 p < v 10 0 ∧ v 6 p < 100 ∧ v 7 p ≤ 1 := R.2.2.1
theorem WFv.nm {v : vw} (R : WFv v) : ∀ p s, p < 16 → s < 8 → v 8 (8 * p + s) ≤ 20 := R.2.2.2.1
theorem WFv.up {v : vw} (R : WFv v) : ∀ k s, k < 3 → 1 ≤ s → s < v (10 + k) 0 → v (20 + k) s < s := R.2.2.2.2.1
theorem WFv.du {v : vw} (R : WFv v) : ∀ k s, k < 3 → 1 ≤ s → s < v (10 + k) 0 → v (30 + k) s = v (30 + k) (v (20 + k) s) + 1 := R.2.2.2.2.2.1
theorem WFv.d0 {v : vw} (R : WFv v) : ∀ k, k < 3 → v (30 + k) 0 = 0 := R.2.2.2.2.2.2.1
theorem WFv.d4 {v : vw} (R : WFv v) : ∀ k s, k < 3 → s < v (10 + k) 0 → v (30 + k) s ≤ 4 := R.2.2.2.2.2.2.2.1
theorem WFv.nk {v : vw} (R : WFv v) : ∀ s, s < v 10 0 → v 40 s < v 11 0 ∧ 1 ≤ v 50 s ∧ v 50 s ≤ 20 ∧ v 51 s ≤ 17 ∧ (v 51 s = 0 → v 50 s = 1) := R.2.2.2.2.2.2.2.2.1
theorem WFv.uk {v : vw} (R : WFv v) : ∀ s, s < v 11 0 → v 41 s < 100 ∧ v 60 s ≤ 3 := R.2.2.2.2.2.2.2.2.2.1
theorem WFv.rg {v : vw} (R : WFv v) : ∀ s r, s < v 11 0 → r < v 60 s → 1 ≤ v 63 (3 * s + r) ∧ v 61 (3 * s + r) + v 63 (3 * s + r) ≤ 100 ∧ v 62 (3 * s + r) + v 63 (3 * s + r) ≤ 100 := R.2.2.2.2.2.2.2.2.2.2.1
theorem WFv.mk {v : vw} (R : WFv v) : ∀ s, s < v 12 0 → v 42 s < v 11 0 ∧ v 70 s ≤ 1 := R.2.2.2.2.2.2.2.2.2.2.2.1
theorem WFv.tg {v : vw} (R : WFv v) : ∀ s i, s < v 12 0 → i < 8 → v 71 (8 * s + i) < 100 := R.2.2.2.2.2.2.2.2.2.2.2.2
/-- what holds of who is there -/
def SMv (v : vw) : Prop :=
  (v 0 0 = 1 ∧ v 2 0 = 0 ∧ v 1 0 = 0 ∧ v 51 0 = 2) ∧
  (∀ p, p < 16 → v 0 p = 1 → 2 ≤ v 51 (v 2 p)) ∧
  (∀ s, s < v 10 0 → 2 ≤ v 51 s → v 0 (v 51 s - 2) = 1 ∧ v 2 (v 51 s - 2) = s) ∧
  (∀ s, 1 ≤ s → s < v 10 0 → v 51 (v 20 s) ≠ 0) ∧
  (∀ p, p < 16 → v 0 p = 1 → v 0 (v 1 p) = 1 ∧ v 2 (v 1 p) ∈ ch v 0 (v 2 p)) ∧
  (∀ p, p < 16 → v 0 p = 1 → v 2 p ∈ ch v 0 (v 5 p)) ∧
  (∀ p s, p < 16 → s < 8 → v 0 p = 1 → v 8 (8 * p + s) ≠ 0 → s < v 10 0 ∧ s ∈ ch v 0 (v 2 p))
theorem SMv.t0 {v : vw} (R : SMv v) : v 0 0 = 1 ∧ v 2 0 = 0 ∧ v 1 0 = 0 ∧ v 51 0 = 2 := R.1
theorem SMv.il {v : vw} (R : SMv v) : ∀ p, p < 16 → v 0 p = 1 → 2 ≤ v 51 (v 2 p) := R.2.1
theorem SMv.ii {v : vw} (R : SMv v) : ∀ s, s < v 10 0 → 2 ≤ v 51 s → v 0 (v 51 s - 2) = 1 ∧ v 2 (v 51 s - 2) = s := R.2.2.1
theorem SMv.bb {v : vw} (R : SMv v) : ∀ s, 1 ≤ s → s < v 10 0 → v 51 (v 20 s) ≠ 0 := R.2.2.2.1
theorem SMv.pp {v : vw} (R : SMv v) : ∀ p, p < 16 → v 0 p = 1 → v 0 (v 1 p) = 1 ∧ v 2 (v 1 p) ∈ ch v 0 (v 2 p) := R.2.2.2.2.1
theorem SMv.cw {v : vw} (R : SMv v) : ∀ p, p < 16 → v 0 p = 1 → v 2 p ∈ ch v 0 (v 5 p) := R.2.2.2.2.2.1
theorem SMv.nw {v : vw} (R : SMv v) : ∀ p s, p < 16 → s < 8 → v 0 p = 1 → v 8 (8 * p + s) ≠ 0 → s < v 10 0 ∧ s ∈ ch v 0 (v 2 p) := R.2.2.2.2.2.2
theorem ch_0 (v : vw) (k : Nat) : ch v k 0 = [0] := rfl
theorem ch_s {v : vw} (W : WFv v) {k s : Nat} (hk : k < 3) (h1 : 1 ≤ s) (hs : s < v (10 + k) 0) : ch v k s = s :: ch v k (v (20 + k) s) := by
  have h8 := (W.ct k hk).2
  have hu := W.up k s hk h1 hs
  show s :: (if s = 0 then [] else cc (v (20 + k)) 7 (v (20 + k) s)) = _
  rw [if_neg (by omega)]
  show _ = s :: cc (v (20 + k)) 8 (v (20 + k) s)
  rw [cc_irr _ 7 8 _ (by omega) (by omega)]
  intro t h2 h3
  exact W.up k t hk h2 (by omega)
theorem WFv.c0 {v : vw} (W : WFv v) : 1 ≤ v 10 0 ∧ v 10 0 ≤ 8 := W.ct 0 (by decide)
theorem WFv.up0 {v : vw} (W : WFv v) (s : Nat) (h1 : 1 ≤ s) (h2 : s < v 10 0) : v 20 s < s := W.up 0 s (by decide) h1 h2
theorem WFv.du0 {v : vw} (W : WFv v) (s : Nat) (h1 : 1 ≤ s) (h2 : s < v 10 0) : v 30 s = v 30 (v 20 s) + 1 := W.du 0 s (by decide) h1 h2
theorem WFv.dz0 {v : vw} (W : WFv v) : v 30 0 = 0 := W.d0 0 (by decide)
theorem WFv.df0 {v : vw} (W : WFv v) (s : Nat) (h2 : s < v 10 0) : v 30 s ≤ 4 := W.d4 0 s (by decide) h2
theorem ch_s0 {v : vw} (W : WFv v) {s : Nat} (h1 : 1 ≤ s) (hs : s < v 10 0) : ch v 0 s = s :: ch v 0 (v 20 s) := ch_s W (by decide) h1 hs
theorem WFv.c1 {v : vw} (W : WFv v) : 1 ≤ v 11 0 ∧ v 11 0 ≤ 8 := W.ct 1 (by decide)
theorem WFv.up1 {v : vw} (W : WFv v) (s : Nat) (h1 : 1 ≤ s) (h2 : s < v 11 0) : v 21 s < s := W.up 1 s (by decide) h1 h2
theorem WFv.du1 {v : vw} (W : WFv v) (s : Nat) (h1 : 1 ≤ s) (h2 : s < v 11 0) : v 31 s = v 31 (v 21 s) + 1 := W.du 1 s (by decide) h1 h2
theorem WFv.dz1 {v : vw} (W : WFv v) : v 31 0 = 0 := W.d0 1 (by decide)
theorem WFv.df1 {v : vw} (W : WFv v) (s : Nat) (h2 : s < v 11 0) : v 31 s ≤ 4 := W.d4 1 s (by decide) h2
theorem ch_s1 {v : vw} (W : WFv v) {s : Nat} (h1 : 1 ≤ s) (hs : s < v 11 0) : ch v 1 s = s :: ch v 1 (v 21 s) := ch_s W (by decide) h1 hs
theorem WFv.c2 {v : vw} (W : WFv v) : 1 ≤ v 12 0 ∧ v 12 0 ≤ 8 := W.ct 2 (by decide)
theorem WFv.up2 {v : vw} (W : WFv v) (s : Nat) (h1 : 1 ≤ s) (h2 : s < v 12 0) : v 22 s < s := W.up 2 s (by decide) h1 h2
theorem WFv.du2 {v : vw} (W : WFv v) (s : Nat) (h1 : 1 ≤ s) (h2 : s < v 12 0) : v 32 s = v 32 (v 22 s) + 1 := W.du 2 s (by decide) h1 h2
theorem WFv.dz2 {v : vw} (W : WFv v) : v 32 0 = 0 := W.d0 2 (by decide)
theorem WFv.df2 {v : vw} (W : WFv v) (s : Nat) (h2 : s < v 12 0) : v 32 s ≤ 4 := W.d4 2 s (by decide) h2
theorem ch_s2 {v : vw} (W : WFv v) {s : Nat} (h1 : 1 ≤ s) (hs : s < v 12 0) : ch v 2 s = s :: ch v 2 (v 22 s) := ch_s W (by decide) h1 hs
theorem nm1_ne {n : Nat} (h : n < 2147483648) : (nI n = nm1) = False := al_ne1 h
theorem nm1_ne' {n : Nat} (h : n < 2147483648) : (nm1 = nI n) = False := al_ne1' h
theorem nm1_add (x : Int32) : x + nm1 = x - nI 1 := (Int32.sub_eq_add_neg x (nI 1)).symm
theorem nm1_lt : (nm1 < nI 0) = True := by decide
theorem nm1_le : (nm1 ≤ nI 0) = True := by decide
/-- truth as a number -/
def bn (b : Bool) : Int32 := if b then nI 1 else nI 0
theorem bn_0 (b : Bool) : (bn b = nI 0) = (b = false) := by cases b <;> decide
theorem bn_1 (b : Bool) : (bn b = nI 1) = (b = true) := by cases b <;> decide
theorem bn_jz (b : Bool) (h : jh) : jz (bn b) h = some (bn b, h) := by cases b <;> rfl
theorem bn_f (h : jh) : some (nI 0, h) = some (bn false, h) := rfl
theorem bn_t (h : jh) : some (nI 1, h) = some (bn true, h) := rfl
/-- a place or none -/
def on (N x : Nat) : Int32 := if x = N then nm1 else nI x
