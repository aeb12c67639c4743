/-! a World of the class: 28 cells at w, its state W by field and place -/
def wo0 (w : Nat) (W : ms) : List Value := [.ref (w + 1), .ref (w + 9), .ref (w + 15), .ref (w + 23)]
def wo1 (w : Nat) (W : ms) : List Value := [.ref (w + 2), .ref (w + 3), .ref (w + 4), .ref (w + 5), .ref (w + 6), .ref (w + 7), .ref (w + 8), .int (W 7 0), .int (W 8 0)]
def wo9 (w : Nat) (W : ms) : List Value := [.ref (w + 10), .ref (w + 12), .ref (w + 13), .ref (w + 14)]
def wo10 (w : Nat) (W : ms) : List Value := [.ref (w + 11), .int (W 10 0)]
def wo15 (w : Nat) (W : ms) : List Value := [.ref (w + 16), .ref (w + 18), .ref (w + 19), .ref (w + 20), .ref (w + 21), .ref (w + 22)]
def wo16 (w : Nat) (W : ms) : List Value := [.ref (w + 17), .int (W 15 0)]
def wo23 (w : Nat) (W : ms) : List Value := [.ref (w + 24), .ref (w + 26), .ref (w + 27), .int (W 25 0)]
def wo24 (w : Nat) (W : ms) : List Value := [.ref (w + 25), .int (W 22 0)]
def wc (w : Nat) (W : ms) (d : Nat) : jc := match d with
  | 0 => jO 9 (wo0 w W)
  | 1 => jO 3 (wo1 w W)
  | 2 => jI 16 (W 0)
  | 3 => jI 16 (W 1)
  | 4 => jI 16 (W 2)
  | 5 => jI 16 (W 3)
  | 6 => jI 16 (W 4)
  | 7 => jI 16 (W 5)
  | 8 => jI 128 (W 6)
  | 9 => jO 2 (wo9 w W)
  | 10 => jO 7 (wo10 w W)
  | 11 => jI 8 (W 9)
  | 12 => jI 8 (W 11)
  | 13 => jI 8 (W 12)
  | 14 => jI 8 (W 13)
  | 15 => jO 8 (wo15 w W)
  | 16 => jO 7 (wo16 w W)
  | 17 => jI 8 (W 14)
  | 18 => jI 8 (W 16)
  | 19 => jI 8 (W 17)
  | 20 => jI 24 (W 18)
  | 21 => jI 24 (W 19)
  | 22 => jI 24 (W 20)
  | 23 => jO 0 (wo23 w W)
  | 24 => jO 7 (wo24 w W)
  | 25 => jI 8 (W 21)
  | 26 => jI 8 (W 23)
  | _ => jI 64 (W 24)
def pw (h : jh) (w : Nat) (W : ms) : jh := (h.1, h.2.1, fun q => if w ≤ q ∧ q < w + 28 then wc w W (q - w) else h.2.2 q)
theorem pw_at (h : jh) (w : Nat) (W : ms) (d : Nat) (hd : d < 28) : (pw h w W).2.2 (w + d) = wc w W d := by
  show (if w ≤ w + d ∧ w + d < w + 28 then wc w W (w + d - w) else _) = _
  rw [if_pos ⟨by omega, by omega⟩, Nat.add_sub_cancel_left]
theorem pw_0 (h : jh) (w : Nat) (W : ms) : (pw h w W).2.2 w = jO 9 (wo0 w W) := pw_at h w W 0 (by decide)
theorem pw_wr (h : jh) (w : Nat) (W W' : ms) (d : Nat) (c : jc) (hd : d < 28) (hc : wc w W' d = c) (ho : ∀ e, e < 28 → e ≠ d → wc w W' e = wc w W e) : jv_wr (pw h w W) (w + d) c = pw h w W' := by
  unfold jv_wr pw
  simp only [Prod.mk.injEq, true_and]
  funext q
  by_cases hq : q = w + d
  · subst hq
    rw [if_pos rfl, if_pos ⟨by omega, by omega⟩, Nat.add_sub_cancel_left, hc]
  · rw [if_neg hq]
    by_cases h1 : w ≤ q ∧ q < w + 28
    · rw [if_pos h1, if_pos h1, ho (q - w) (by omega) (by omega)]
    · rw [if_neg h1, if_neg h1]
theorem wc_f0 (w : Nat) (W : ms) (r : Nat → Int32) (e : Nat) (he : e < 28) (hne : e ≠ 2) : wc w (sw W 0 r) e = wc w W e := by
  have : e = 0 ∨ e = 1 ∨ e = 2 ∨ e = 3 ∨ e = 4 ∨ e = 5 ∨ e = 6 ∨ e = 7 ∨ e = 8 ∨ e = 9 ∨ e = 10 ∨ e = 11 ∨ e = 12 ∨ e = 13 ∨ e = 14 ∨ e = 15 ∨ e = 16 ∨ e = 17 ∨ e = 18 ∨ e = 19 ∨ e = 20 ∨ e = 21 ∨ e = 22 ∨ e = 23 ∨ e = 24 ∨ e = 25 ∨ e = 26 ∨ e = 27 := by omega
  rcases this with rfl | rfl | rfl | rfl | rfl | rfl | rfl | rfl | rfl | rfl | rfl | rfl | rfl | rfl | rfl | rfl | rfl | rfl | rfl | rfl | rfl | rfl | rfl | rfl | rfl | rfl | rfl | rfl <;> first | exact absurd rfl hne | rfl
theorem wc_f1 (w : Nat) (W : ms) (r : Nat → Int32) (e : Nat) (he : e < 28) (hne : e ≠ 3) : wc w (sw W 1 r) e = wc w W e := by
  have : e = 0 ∨ e = 1 ∨ e = 2 ∨ e = 3 ∨ e = 4 ∨ e = 5 ∨ e = 6 ∨ e = 7 ∨ e = 8 ∨ e = 9 ∨ e = 10 ∨ e = 11 ∨ e = 12 ∨ e = 13 ∨ e = 14 ∨ e = 15 ∨ e = 16 ∨ e = 17 ∨ e = 18 ∨ e = 19 ∨ e = 20 ∨ e = 21 ∨ e = 22 ∨ e = 23 ∨ e = 24 ∨ e = 25 ∨ e = 26 ∨ e = 27 := by omega
  rcases this with rfl | rfl | rfl | rfl | rfl | rfl | rfl | rfl | rfl | rfl | rfl | rfl | rfl | rfl | rfl | rfl | rfl | rfl | rfl | rfl | rfl | rfl | rfl | rfl | rfl | rfl | rfl | rfl <;> first | exact absurd rfl hne | rfl
theorem wc_f2 (w : Nat) (W : ms) (r : Nat → Int32) (e : Nat) (he : e < 28) (hne : e ≠ 4) : wc w (sw W 2 r) e = wc w W e := by
  have : e = 0 ∨ e = 1 ∨ e = 2 ∨ e = 3 ∨ e = 4 ∨ e = 5 ∨ e = 6 ∨ e = 7 ∨ e = 8 ∨ e = 9 ∨ e = 10 ∨ e = 11 ∨ e = 12 ∨ e = 13 ∨ e = 14 ∨ e = 15 ∨ e = 16 ∨ e = 17 ∨ e = 18 ∨ e = 19 ∨ e = 20 ∨ e = 21 ∨ e = 22 ∨ e = 23 ∨ e = 24 ∨ e = 25 ∨ e = 26 ∨ e = 27 := by omega
  rcases this with rfl | rfl | rfl | rfl | rfl | rfl | rfl | rfl | rfl | rfl | rfl | rfl | rfl | rfl | rfl | rfl | rfl | rfl | rfl | rfl | rfl | rfl | rfl | rfl | rfl | rfl | rfl | rfl <;> first | exact absurd rfl hne | rfl
theorem wc_f3 (w : Nat) (W : ms) (r : Nat → Int32) (e : Nat) (he : e < 28) (hne : e ≠ 5) : wc w (sw W 3 r) e = wc w W e := by
  have : e = 0 ∨ e = 1 ∨ e = 2 ∨ e = 3 ∨ e = 4 ∨ e = 5 ∨ e = 6 ∨ e = 7 ∨ e = 8 ∨ e = 9 ∨ e = 10 ∨ e = 11 ∨ e = 12 ∨ e = 13 ∨ e = 14 ∨ e = 15 ∨ e = 16 ∨ e = 17 ∨ e = 18 ∨ e = 19 ∨ e = 20 ∨ e = 21 ∨ e = 22 ∨ e = 23 ∨ e = 24 ∨ e = 25 ∨ e = 26 ∨ e = 27 := by omega
  rcases this with rfl | rfl | rfl | rfl | rfl | rfl | rfl | rfl | rfl | rfl | rfl | rfl | rfl | rfl | rfl | rfl | rfl | rfl | rfl | rfl | rfl | rfl | rfl | rfl | rfl | rfl | rfl | rfl <;> first | exact absurd rfl hne | rfl
theorem wc_f4 (w : Nat) (W : ms) (r : Nat → Int32) (e : Nat) (he : e < 28) (hne : e ≠ 6) : wc w (sw W 4 r) e = wc w W e := by
  have : e = 0 ∨ e = 1 ∨ e = 2 ∨ e = 3 ∨ e = 4 ∨ e = 5 ∨ e = 6 ∨ e = 7 ∨ e = 8 ∨ e = 9 ∨ e = 10 ∨ e = 11 ∨ e = 12 ∨ e = 13 ∨ e = 14 ∨ e = 15 ∨ e = 16 ∨ e = 17 ∨ e = 18 ∨ e = 19 ∨ e = 20 ∨ e = 21 ∨ e = 22 ∨ e = 23 ∨ e = 24 ∨ e = 25 ∨ e = 26 ∨ e = 27 := by omega
  rcases this with rfl | rfl | rfl | rfl | rfl | rfl | rfl | rfl | rfl | rfl | rfl | rfl | rfl | rfl | rfl | rfl | rfl | rfl | rfl | rfl | rfl | rfl | rfl | rfl | rfl | rfl | rfl | rfl <;> first | exact absurd rfl hne | rfl
theorem wc_f5 (w : Nat) (W : ms) (r : Nat → Int32) (e : Nat) (he : e < 28) (hne : e ≠ 7) : wc w (sw W 5 r) e = wc w W e := by
  have : e = 0 ∨ e = 1 ∨ e = 2 ∨ e = 3 ∨ e = 4 ∨ e = 5 ∨ e = 6 ∨ e = 7 ∨ e = 8 ∨ e = 9 ∨ e = 10 ∨ e = 11 ∨ e = 12 ∨ e = 13 ∨ e = 14 ∨ e = 15 ∨ e = 16 ∨ e = 17 ∨ e = 18 ∨ e = 19 ∨ e = 20 ∨ e = 21 ∨ e = 22 ∨ e = 23 ∨ e = 24 ∨ e = 25 ∨ e = 26 ∨ e = 27 := by omega
  rcases this with rfl | rfl | rfl | rfl | rfl | rfl | rfl | rfl | rfl | rfl | rfl | rfl | rfl | rfl | rfl | rfl | rfl | rfl | rfl | rfl | rfl | rfl | rfl | rfl | rfl | rfl | rfl | rfl <;> first | exact absurd rfl hne | rfl
theorem wc_f6 (w : Nat) (W : ms) (r : Nat → Int32) (e : Nat) (he : e < 28) (hne : e ≠ 8) : wc w (sw W 6 r) e = wc w W e := by
  have : e = 0 ∨ e = 1 ∨ e = 2 ∨ e = 3 ∨ e = 4 ∨ e = 5 ∨ e = 6 ∨ e = 7 ∨ e = 8 ∨ e = 9 ∨ e = 10 ∨ e = 11 ∨ e = 12 ∨ e = 13 ∨ e = 14 ∨ e = 15 ∨ e = 16 ∨ e = 17 ∨ e = 18 ∨ e = 19 ∨ e = 20 ∨ e = 21 ∨ e = 22 ∨ e = 23 ∨ e = 24 ∨ e = 25 ∨ e = 26 ∨ e = 27 := by omega
  rcases this with rfl | rfl | rfl | rfl | rfl | rfl | rfl | rfl | rfl | rfl | rfl | rfl | rfl | rfl | rfl | rfl | rfl | rfl | rfl | rfl | rfl | rfl | rfl | rfl | rfl | rfl | rfl | rfl <;> first | exact absurd rfl hne | rfl
theorem wc_f7 (w : Nat) (W : ms) (r : Nat → Int32) (e : Nat) (he : e < 28) (hne : e ≠ 1) : wc w (sw W 7 r) e = wc w W e := by
  have : e = 0 ∨ e = 1 ∨ e = 2 ∨ e = 3 ∨ e = 4 ∨ e = 5 ∨ e = 6 ∨ e = 7 ∨ e = 8 ∨ e = 9 ∨ e = 10 ∨ e = 11 ∨ e = 12 ∨ e = 13 ∨ e = 14 ∨ e = 15 ∨ e = 16 ∨ e = 17 ∨ e = 18 ∨ e = 19 ∨ e = 20 ∨ e = 21 ∨ e = 22 ∨ e = 23 ∨ e = 24 ∨ e = 25 ∨ e = 26 ∨ e = 27 := by omega
  rcases this with rfl | rfl | rfl | rfl | rfl | rfl | rfl | rfl | rfl | rfl | rfl | rfl | rfl | rfl | rfl | rfl | rfl | rfl | rfl | rfl | rfl | rfl | rfl | rfl | rfl | rfl | rfl | rfl <;> first | exact absurd rfl hne | rfl
theorem wc_f8 (w : Nat) (W : ms) (r : Nat → Int32) (e : Nat) (he : e < 28) (hne : e ≠ 1) : wc w (sw W 8 r) e = wc w W e := by
  have : e = 0 ∨ e = 1 ∨ e = 2 ∨ e = 3 ∨ e = 4 ∨ e = 5 ∨ e = 6 ∨ e = 7 ∨ e = 8 ∨ e = 9 ∨ e = 10 ∨ e = 11 ∨ e = 12 ∨ e = 13 ∨ e = 14 ∨ e = 15 ∨ e = 16 ∨ e = 17 ∨ e = 18 ∨ e = 19 ∨ e = 20 ∨ e = 21 ∨ e = 22 ∨ e = 23 ∨ e = 24 ∨ e = 25 ∨ e = 26 ∨ e = 27 := by omega
  rcases this with rfl | rfl | rfl | rfl | rfl | rfl | rfl | rfl | rfl | rfl | rfl | rfl | rfl | rfl | rfl | rfl | rfl | rfl | rfl | rfl | rfl | rfl | rfl | rfl | rfl | rfl | rfl | rfl <;> first | exact absurd rfl hne | rfl
theorem wc_f9 (w : Nat) (W : ms) (r : Nat → Int32) (e : Nat) (he : e < 28) (hne : e ≠ 11) : wc w (sw W 9 r) e = wc w W e := by
  have : e = 0 ∨ e = 1 ∨ e = 2 ∨ e = 3 ∨ e = 4 ∨ e = 5 ∨ e = 6 ∨ e = 7 ∨ e = 8 ∨ e = 9 ∨ e = 10 ∨ e = 11 ∨ e = 12 ∨ e = 13 ∨ e = 14 ∨ e = 15 ∨ e = 16 ∨ e = 17 ∨ e = 18 ∨ e = 19 ∨ e = 20 ∨ e = 21 ∨ e = 22 ∨ e = 23 ∨ e = 24 ∨ e = 25 ∨ e = 26 ∨ e = 27 := by omega
  rcases this with rfl | rfl | rfl | rfl | rfl | rfl | rfl | rfl | rfl | rfl | rfl | rfl | rfl | rfl | rfl | rfl | rfl | rfl | rfl | rfl | rfl | rfl | rfl | rfl | rfl | rfl | rfl | rfl <;> first | exact absurd rfl hne | rfl
theorem wc_f10 (w : Nat) (W : ms) (r : Nat → Int32) (e : Nat) (he : e < 28) (hne : e ≠ 10) : wc w (sw W 10 r) e = wc w W e := by
  have : e = 0 ∨ e = 1 ∨ e = 2 ∨ e = 3 ∨ e = 4 ∨ e = 5 ∨ e = 6 ∨ e = 7 ∨ e = 8 ∨ e = 9 ∨ e = 10 ∨ e = 11 ∨ e = 12 ∨ e = 13 ∨ e = 14 ∨ e = 15 ∨ e = 16 ∨ e = 17 ∨ e = 18 ∨ e = 19 ∨ e = 20 ∨ e = 21 ∨ e = 22 ∨ e = 23 ∨ e = 24 ∨ e = 25 ∨ e = 26 ∨ e = 27 := by omega
  rcases this with rfl | rfl | rfl | rfl | rfl | rfl | rfl | rfl | rfl | rfl | rfl | rfl | rfl | rfl | rfl | rfl | rfl | rfl | rfl | rfl | rfl | rfl | rfl | rfl | rfl | rfl | rfl | rfl <;> first | exact absurd rfl hne | rfl
theorem wc_f11 (w : Nat) (W : ms) (r : Nat → Int32) (e : Nat) (he : e < 28) (hne : e ≠ 12) : wc w (sw W 11 r) e = wc w W e := by
  have : e = 0 ∨ e = 1 ∨ e = 2 ∨ e = 3 ∨ e = 4 ∨ e = 5 ∨ e = 6 ∨ e = 7 ∨ e = 8 ∨ e = 9 ∨ e = 10 ∨ e = 11 ∨ e = 12 ∨ e = 13 ∨ e = 14 ∨ e = 15 ∨ e = 16 ∨ e = 17 ∨ e = 18 ∨ e = 19 ∨ e = 20 ∨ e = 21 ∨ e = 22 ∨ e = 23 ∨ e = 24 ∨ e = 25 ∨ e = 26 ∨ e = 27 := by omega
  rcases this with rfl | rfl | rfl | rfl | rfl | rfl | rfl | rfl | rfl | rfl | rfl | rfl | rfl | rfl | rfl | rfl | rfl | rfl | rfl | rfl | rfl | rfl | rfl | rfl | rfl | rfl | rfl | rfl <;> first | exact absurd rfl hne | rfl
theorem wc_f12 (w : Nat) (W : ms) (r : Nat → Int32) (e : Nat) (he : e < 28) (hne : e ≠ 13) : wc w (sw W 12 r) e = wc w W e := by
  have : e = 0 ∨ e = 1 ∨ e = 2 ∨ e = 3 ∨ e = 4 ∨ e = 5 ∨ e = 6 ∨ e = 7 ∨ e = 8 ∨ e = 9 ∨ e = 10 ∨ e = 11 ∨ e = 12 ∨ e = 13 ∨ e = 14 ∨ e = 15 ∨ e = 16 ∨ e = 17 ∨ e = 18 ∨ e = 19 ∨ e = 20 ∨ e = 21 ∨ e = 22 ∨ e = 23 ∨ e = 24 ∨ e = 25 ∨ e = 26 ∨ e = 27 := by omega
  rcases this with rfl | rfl | rfl | rfl | rfl | rfl | rfl | rfl | rfl | rfl | rfl | rfl | rfl | rfl | rfl | rfl | rfl | rfl | rfl | rfl | rfl | rfl | rfl | rfl | rfl | rfl | rfl | rfl <;> first | exact absurd rfl hne | rfl
theorem wc_f13 (w : Nat) (W : ms) (r : Nat → Int32) (e : Nat) (he : e < 28) (hne : e ≠ 14) : wc w (sw W 13 r) e = wc w W e := by
  have : e = 0 ∨ e = 1 ∨ e = 2 ∨ e = 3 ∨ e = 4 ∨ e = 5 ∨ e = 6 ∨ e = 7 ∨ e = 8 ∨ e = 9 ∨ e = 10 ∨ e = 11 ∨ e = 12 ∨ e = 13 ∨ e = 14 ∨ e = 15 ∨ e = 16 ∨ e = 17 ∨ e = 18 ∨ e = 19 ∨ e = 20 ∨ e = 21 ∨ e = 22 ∨ e = 23 ∨ e = 24 ∨ e = 25 ∨ e = 26 ∨ e = 27 := by omega
  rcases this with rfl | rfl | rfl | rfl | rfl | rfl | rfl | rfl | rfl | rfl | rfl | rfl | rfl | rfl | rfl | rfl | rfl | rfl | rfl | rfl | rfl | rfl | rfl | rfl | rfl | rfl | rfl | rfl <;> first | exact absurd rfl hne | rfl
theorem wc_f14 (w : Nat) (W : ms) (r : Nat → Int32) (e : Nat) (he : e < 28) (hne : e ≠ 17) : wc w (sw W 14 r) e = wc w W e := by
  have : e = 0 ∨ e = 1 ∨ e = 2 ∨ e = 3 ∨ e = 4 ∨ e = 5 ∨ e = 6 ∨ e = 7 ∨ e = 8 ∨ e = 9 ∨ e = 10 ∨ e = 11 ∨ e = 12 ∨ e = 13 ∨ e = 14 ∨ e = 15 ∨ e = 16 ∨ e = 17 ∨ e = 18 ∨ e = 19 ∨ e = 20 ∨ e = 21 ∨ e = 22 ∨ e = 23 ∨ e = 24 ∨ e = 25 ∨ e = 26 ∨ e = 27 := by omega
  rcases this with rfl | rfl | rfl | rfl | rfl | rfl | rfl | rfl | rfl | rfl | rfl | rfl | rfl | rfl | rfl | rfl | rfl | rfl | rfl | rfl | rfl | rfl | rfl | rfl | rfl | rfl | rfl | rfl <;> first | exact absurd rfl hne | rfl
theorem wc_f15 (w : Nat) (W : ms) (r : Nat → Int32) (e : Nat) (he : e < 28) (hne : e ≠ 16) : wc w (sw W 15 r) e = wc w W e := by
  have : e = 0 ∨ e = 1 ∨ e = 2 ∨ e = 3 ∨ e = 4 ∨ e = 5 ∨ e = 6 ∨ e = 7 ∨ e = 8 ∨ e = 9 ∨ e = 10 ∨ e = 11 ∨ e = 12 ∨ e = 13 ∨ e = 14 ∨ e = 15 ∨ e = 16 ∨ e = 17 ∨ e = 18 ∨ e = 19 ∨ e = 20 ∨ e = 21 ∨ e = 22 ∨ e = 23 ∨ e = 24 ∨ e = 25 ∨ e = 26 ∨ e = 27 := by omega
  rcases this with rfl | rfl | rfl | rfl | rfl | rfl | rfl | rfl | rfl | rfl | rfl | rfl | rfl | rfl | rfl | rfl | rfl | rfl | rfl | rfl | rfl | rfl | rfl | rfl | rfl | rfl | rfl | rfl <;> first | exact absurd rfl hne | rfl
theorem wc_f16 (w : Nat) (W : ms) (r : Nat → Int32) (e : Nat) (he : e < 28) (hne : e ≠ 18) : wc w (sw W 16 r) e = wc w W e := by
  have : e = 0 ∨ e = 1 ∨ e = 2 ∨ e = 3 ∨ e = 4 ∨ e = 5 ∨ e = 6 ∨ e = 7 ∨ e = 8 ∨ e = 9 ∨ e = 10 ∨ e = 11 ∨ e = 12 ∨ e = 13 ∨ e = 14 ∨ e = 15 ∨ e = 16 ∨ e = 17 ∨ e = 18 ∨ e = 19 ∨ e = 20 ∨ e = 21 ∨ e = 22 ∨ e = 23 ∨ e = 24 ∨ e = 25 ∨ e = 26 ∨ e = 27 := by omega
  rcases this with rfl | rfl | rfl | rfl | rfl | rfl | rfl | rfl | rfl | rfl | rfl | rfl | rfl | rfl | rfl | rfl | rfl | rfl | rfl | rfl | rfl | rfl | rfl | rfl | rfl | rfl | rfl | rfl <;> first | exact absurd rfl hne | rfl
theorem wc_f17 (w : Nat) (W : ms) (r : Nat → Int32) (e : Nat) (he : e < 28) (hne : e ≠ 19) : wc w (sw W 17 r) e = wc w W e := by
  have : e = 0 ∨ e = 1 ∨ e = 2 ∨ e = 3 ∨ e = 4 ∨ e = 5 ∨ e = 6 ∨ e = 7 ∨ e = 8 ∨ e = 9 ∨ e = 10 ∨ e = 11 ∨ e = 12 ∨ e = 13 ∨ e = 14 ∨ e = 15 ∨ e = 16 ∨ e = 17 ∨ e = 18 ∨ e = 19 ∨ e = 20 ∨ e = 21 ∨ e = 22 ∨ e = 23 ∨ e = 24 ∨ e = 25 ∨ e = 26 ∨ e = 27 := by omega
  rcases this with rfl | rfl | rfl | rfl | rfl | rfl | rfl | rfl | rfl | rfl | rfl | rfl | rfl | rfl | rfl | rfl | rfl | rfl | rfl | rfl | rfl | rfl | rfl | rfl | rfl | rfl | rfl | rfl <;> first | exact absurd rfl hne | rfl
theorem wc_f18 (w : Nat) (W : ms) (r : Nat → Int32) (e : Nat) (he : e < 28) (hne : e ≠ 20) : wc w (sw W 18 r) e = wc w W e := by
  have : e = 0 ∨ e = 1 ∨ e = 2 ∨ e = 3 ∨ e = 4 ∨ e = 5 ∨ e = 6 ∨ e = 7 ∨ e = 8 ∨ e = 9 ∨ e = 10 ∨ e = 11 ∨ e = 12 ∨ e = 13 ∨ e = 14 ∨ e = 15 ∨ e = 16 ∨ e = 17 ∨ e = 18 ∨ e = 19 ∨ e = 20 ∨ e = 21 ∨ e = 22 ∨ e = 23 ∨ e = 24 ∨ e = 25 ∨ e = 26 ∨ e = 27 := by omega
  rcases this with rfl | rfl | rfl | rfl | rfl | rfl | rfl | rfl | rfl | rfl | rfl | rfl | rfl | rfl | rfl | rfl | rfl | rfl | rfl | rfl | rfl | rfl | rfl | rfl | rfl | rfl | rfl | rfl <;> first | exact absurd rfl hne | rfl
theorem wc_f19 (w : Nat) (W : ms) (r : Nat → Int32) (e : Nat) (he : e < 28) (hne : e ≠ 21) : wc w (sw W 19 r) e = wc w W e := by
  have : e = 0 ∨ e = 1 ∨ e = 2 ∨ e = 3 ∨ e = 4 ∨ e = 5 ∨ e = 6 ∨ e = 7 ∨ e = 8 ∨ e = 9 ∨ e = 10 ∨ e = 11 ∨ e = 12 ∨ e = 13 ∨ e = 14 ∨ e = 15 ∨ e = 16 ∨ e = 17 ∨ e = 18 ∨ e = 19 ∨ e = 20 ∨ e = 21 ∨ e = 22 ∨ e = 23 ∨ e = 24 ∨ e = 25 ∨ e = 26 ∨ e = 27 := by omega
  rcases this with rfl | rfl | rfl | rfl | rfl | rfl | rfl | rfl | rfl | rfl | rfl | rfl | rfl | rfl | rfl | rfl | rfl | rfl | rfl | rfl | rfl | rfl | rfl | rfl | rfl | rfl | rfl | rfl <;> first | exact absurd rfl hne | rfl
theorem wc_f20 (w : Nat) (W : ms) (r : Nat → Int32) (e : Nat) (he : e < 28) (hne : e ≠ 22) : wc w (sw W 20 r) e = wc w W e := by
  have : e = 0 ∨ e = 1 ∨ e = 2 ∨ e = 3 ∨ e = 4 ∨ e = 5 ∨ e = 6 ∨ e = 7 ∨ e = 8 ∨ e = 9 ∨ e = 10 ∨ e = 11 ∨ e = 12 ∨ e = 13 ∨ e = 14 ∨ e = 15 ∨ e = 16 ∨ e = 17 ∨ e = 18 ∨ e = 19 ∨ e = 20 ∨ e = 21 ∨ e = 22 ∨ e = 23 ∨ e = 24 ∨ e = 25 ∨ e = 26 ∨ e = 27 := by omega
  rcases this with rfl | rfl | rfl | rfl | rfl | rfl | rfl | rfl | rfl | rfl | rfl | rfl | rfl | rfl | rfl | rfl | rfl | rfl | rfl | rfl | rfl | rfl | rfl | rfl | rfl | rfl | rfl | rfl <;> first | exact absurd rfl hne | rfl
theorem wc_f21 (w : Nat) (W : ms) (r : Nat → Int32) (e : Nat) (he : e < 28) (hne : e ≠ 25) : wc w (sw W 21 r) e = wc w W e := by
  have : e = 0 ∨ e = 1 ∨ e = 2 ∨ e = 3 ∨ e = 4 ∨ e = 5 ∨ e = 6 ∨ e = 7 ∨ e = 8 ∨ e = 9 ∨ e = 10 ∨ e = 11 ∨ e = 12 ∨ e = 13 ∨ e = 14 ∨ e = 15 ∨ e = 16 ∨ e = 17 ∨ e = 18 ∨ e = 19 ∨ e = 20 ∨ e = 21 ∨ e = 22 ∨ e = 23 ∨ e = 24 ∨ e = 25 ∨ e = 26 ∨ e = 27 := by omega
  rcases this with rfl | rfl | rfl | rfl | rfl | rfl | rfl | rfl | rfl | rfl | rfl | rfl | rfl | rfl | rfl | rfl | rfl | rfl | rfl | rfl | rfl | rfl | rfl | rfl | rfl | rfl | rfl | rfl <;> first | exact absurd rfl hne | rfl
theorem wc_f22 (w : Nat) (W : ms) (r : Nat → Int32) (e : Nat) (he : e < 28) (hne : e ≠ 24) : wc w (sw W 22 r) e = wc w W e := by
  have : e = 0 ∨ e = 1 ∨ e = 2 ∨ e = 3 ∨ e = 4 ∨ e = 5 ∨ e = 6 ∨ e = 7 ∨ e = 8 ∨ e = 9 ∨ e = 10 ∨ e = 11 ∨ e = 12 ∨ e = 13 ∨ e = 14 ∨ e = 15 ∨ e = 16 ∨ e = 17 ∨ e = 18 ∨ e = 19 ∨ e = 20 ∨ e = 21 ∨ e = 22 ∨ e = 23 ∨ e = 24 ∨ e = 25 ∨ e = 26 ∨ e = 27 := by omega
  rcases this with rfl | rfl | rfl | rfl | rfl | rfl | rfl | rfl | rfl | rfl | rfl | rfl | rfl | rfl | rfl | rfl | rfl | rfl | rfl | rfl | rfl | rfl | rfl | rfl | rfl | rfl | rfl | rfl <;> first | exact absurd rfl hne | rfl
theorem wc_f23 (w : Nat) (W : ms) (r : Nat → Int32) (e : Nat) (he : e < 28) (hne : e ≠ 26) : wc w (sw W 23 r) e = wc w W e := by
  have : e = 0 ∨ e = 1 ∨ e = 2 ∨ e = 3 ∨ e = 4 ∨ e = 5 ∨ e = 6 ∨ e = 7 ∨ e = 8 ∨ e = 9 ∨ e = 10 ∨ e = 11 ∨ e = 12 ∨ e = 13 ∨ e = 14 ∨ e = 15 ∨ e = 16 ∨ e = 17 ∨ e = 18 ∨ e = 19 ∨ e = 20 ∨ e = 21 ∨ e = 22 ∨ e = 23 ∨ e = 24 ∨ e = 25 ∨ e = 26 ∨ e = 27 := by omega
  rcases this with rfl | rfl | rfl | rfl | rfl | rfl | rfl | rfl | rfl | rfl | rfl | rfl | rfl | rfl | rfl | rfl | rfl | rfl | rfl | rfl | rfl | rfl | rfl | rfl | rfl | rfl | rfl | rfl <;> first | exact absurd rfl hne | rfl
theorem wc_f24 (w : Nat) (W : ms) (r : Nat → Int32) (e : Nat) (he : e < 28) (hne : e ≠ 27) : wc w (sw W 24 r) e = wc w W e := by
  have : e = 0 ∨ e = 1 ∨ e = 2 ∨ e = 3 ∨ e = 4 ∨ e = 5 ∨ e = 6 ∨ e = 7 ∨ e = 8 ∨ e = 9 ∨ e = 10 ∨ e = 11 ∨ e = 12 ∨ e = 13 ∨ e = 14 ∨ e = 15 ∨ e = 16 ∨ e = 17 ∨ e = 18 ∨ e = 19 ∨ e = 20 ∨ e = 21 ∨ e = 22 ∨ e = 23 ∨ e = 24 ∨ e = 25 ∨ e = 26 ∨ e = 27 := by omega
  rcases this with rfl | rfl | rfl | rfl | rfl | rfl | rfl | rfl | rfl | rfl | rfl | rfl | rfl | rfl | rfl | rfl | rfl | rfl | rfl | rfl | rfl | rfl | rfl | rfl | rfl | rfl | rfl | rfl <;> first | exact absurd rfl hne | rfl
theorem wc_f25 (w : Nat) (W : ms) (r : Nat → Int32) (e : Nat) (he : e < 28) (hne : e ≠ 23) : wc w (sw W 25 r) e = wc w W e := by
  have : e = 0 ∨ e = 1 ∨ e = 2 ∨ e = 3 ∨ e = 4 ∨ e = 5 ∨ e = 6 ∨ e = 7 ∨ e = 8 ∨ e = 9 ∨ e = 10 ∨ e = 11 ∨ e = 12 ∨ e = 13 ∨ e = 14 ∨ e = 15 ∨ e = 16 ∨ e = 17 ∨ e = 18 ∨ e = 19 ∨ e = 20 ∨ e = 21 ∨ e = 22 ∨ e = 23 ∨ e = 24 ∨ e = 25 ∨ e = 26 ∨ e = 27 := by omega
  rcases this with rfl | rfl | rfl | rfl | rfl | rfl | rfl | rfl | rfl | rfl | rfl | rfl | rfl | rfl | rfl | rfl | rfl | rfl | rfl | rfl | rfl | rfl | rfl | rfl | rfl | rfl | rfl | rfl <;> first | exact absurd rfl hne | rfl
theorem pw_cV0 {γ β : Type} (h : jh) (w : Nat) (W : ms) (o : Option (γ × jh)) (K : γ → jh → Option β) : cV (pw h w W) w 9 o K = bd o K := by
  unfold cV
  rw [if_pos]
  unfold isO
  rw [pw_0 h w W]
  rfl
theorem pw_jg0 (h : jh) (w : Nat) (W : ms) (k : Nat) : jg (pw h w W) w 9 k = (wo0 w W)[k]? := by
  unfold jg
  rw [pw_0 h w W]
  exact if_pos rfl
theorem pw_jp0 (h : jh) (w : Nat) (W : ms) (k : Nat) (v : Value) (hk : k < 4) : jp (pw h w W) w 9 k v = some (jv_wr (pw h w W) w (jO 9 ((wo0 w W).set k v))) := by
  unfold jp
  rw [pw_0 h w W]
  exact if_pos ⟨rfl, hk⟩
theorem pw_gR0_0 {β : Type} (h : jh) (w : Nat) (W : ms) (K : Nat → Option β) : gR (pw h w W) w 9 0 K = K (w + 1) := by unfold gR; rw [pw_jg0]; rfl
theorem pw_gR0_1 {β : Type} (h : jh) (w : Nat) (W : ms) (K : Nat → Option β) : gR (pw h w W) w 9 1 K = K (w + 9) := by unfold gR; rw [pw_jg0]; rfl
theorem pw_gR0_2 {β : Type} (h : jh) (w : Nat) (W : ms) (K : Nat → Option β) : gR (pw h w W) w 9 2 K = K (w + 15) := by unfold gR; rw [pw_jg0]; rfl
theorem pw_gR0_3 {β : Type} (h : jh) (w : Nat) (W : ms) (K : Nat → Option β) : gR (pw h w W) w 9 3 K = K (w + 23) := by unfold gR; rw [pw_jg0]; rfl
theorem pw_cV1 {γ β : Type} (h : jh) (w : Nat) (W : ms) (o : Option (γ × jh)) (K : γ → jh → Option β) : cV (pw h w W) (w + 1) 3 o K = bd o K := by
  unfold cV
  rw [if_pos]
  unfold isO
  rw [pw_at h w W 1 (by decide)]
  rfl
theorem pw_jg1 (h : jh) (w : Nat) (W : ms) (k : Nat) : jg (pw h w W) (w + 1) 3 k = (wo1 w W)[k]? := by
  unfold jg
  rw [pw_at h w W 1 (by decide)]
  exact if_pos rfl
theorem pw_jp1 (h : jh) (w : Nat) (W : ms) (k : Nat) (v : Value) (hk : k < 9) : jp (pw h w W) (w + 1) 3 k v = some (jv_wr (pw h w W) (w + 1) (jO 3 ((wo1 w W).set k v))) := by
  unfold jp
  rw [pw_at h w W 1 (by decide)]
  exact if_pos ⟨rfl, hk⟩
theorem pw_gR1_0 {β : Type} (h : jh) (w : Nat) (W : ms) (K : Nat → Option β) : gR (pw h w W) (w + 1) 3 0 K = K (w + 2) := by unfold gR; rw [pw_jg1]; rfl
theorem pw_gR1_1 {β : Type} (h : jh) (w : Nat) (W : ms) (K : Nat → Option β) : gR (pw h w W) (w + 1) 3 1 K = K (w + 3) := by unfold gR; rw [pw_jg1]; rfl
theorem pw_gR1_2 {β : Type} (h : jh) (w : Nat) (W : ms) (K : Nat → Option β) : gR (pw h w W) (w + 1) 3 2 K = K (w + 4) := by unfold gR; rw [pw_jg1]; rfl
theorem pw_gR1_3 {β : Type} (h : jh) (w : Nat) (W : ms) (K : Nat → Option β) : gR (pw h w W) (w + 1) 3 3 K = K (w + 5) := by unfold gR; rw [pw_jg1]; rfl
theorem pw_gR1_4 {β : Type} (h : jh) (w : Nat) (W : ms) (K : Nat → Option β) : gR (pw h w W) (w + 1) 3 4 K = K (w + 6) := by unfold gR; rw [pw_jg1]; rfl
theorem pw_gR1_5 {β : Type} (h : jh) (w : Nat) (W : ms) (K : Nat → Option β) : gR (pw h w W) (w + 1) 3 5 K = K (w + 7) := by unfold gR; rw [pw_jg1]; rfl
theorem pw_gR1_6 {β : Type} (h : jh) (w : Nat) (W : ms) (K : Nat → Option β) : gR (pw h w W) (w + 1) 3 6 K = K (w + 8) := by unfold gR; rw [pw_jg1]; rfl
theorem pw_gI1_7 {β : Type} (h : jh) (w : Nat) (W : ms) (K : Int32 → Option β) : gI (pw h w W) (w + 1) 3 7 K = K (W 7 0) := by unfold gI; rw [pw_jg1]; rfl
theorem pw_pV1_7 {β : Type} (h : jh) (w : Nat) (W : ms) (v : Int32) (K : jh → Option β) : pV (pw h w W) (w + 1) 3 7 (.int v) K = K (pw h w (sw W 7 (fun _ => v))) := by
  unfold pV
  rw [pw_jp1 h w W 7 _ (by decide)]
  show K _ = _
  rw [pw_wr h w W (sw W 7 (fun _ => v)) 1 _ (by decide) (by simp [wc, wo1, sw]) (fun e he hne => wc_f7 w W _ e he hne)]
theorem pw_gI1_8 {β : Type} (h : jh) (w : Nat) (W : ms) (K : Int32 → Option β) : gI (pw h w W) (w + 1) 3 8 K = K (W 8 0) := by unfold gI; rw [pw_jg1]; rfl
theorem pw_pV1_8 {β : Type} (h : jh) (w : Nat) (W : ms) (v : Int32) (K : jh → Option β) : pV (pw h w W) (w + 1) 3 8 (.int v) K = K (pw h w (sw W 8 (fun _ => v))) := by
  unfold pV
  rw [pw_jp1 h w W 8 _ (by decide)]
  show K _ = _
  rw [pw_wr h w W (sw W 8 (fun _ => v)) 1 _ (by decide) (by simp [wc, wo1, sw]) (fun e he hne => wc_f8 w W _ e he hne)]
theorem pw_lnI2 {β : Type} (h : jh) (w : Nat) (W : ms) (K : Int32 → Option β) : lnI (pw h w W) (w + 2) K = K (nI 16) := by
  unfold lnI
  rw [pw_at h w W 2 (by decide)]
  rfl
theorem cr0 {β : Type} (h : jh) (w : Nat) (W : ms) (j : Nat) (K : Int32 → Option β) (hj : j < 16) : aI (pw h w W) (w + 2) (nI j) K = K (W 0 j) := by
  unfold aI jai
  rw [pw_at h w W 2 (by decide)]
  simp only [wc, if_neg (al_in hj (by decide))]
  rw [al_cl (show j < 2147483648 by omega)]
theorem cw0 {β : Type} (h : jh) (w : Nat) (W : ms) (j : Nat) (v : Int32) (K : jh → Option β) (hj : j < 16) : sI (pw h w W) (w + 2) (nI j) v K = K (pw h w (sw W 0 (upd (W 0) j v))) := by
  unfold sI jsi
  rw [pw_at h w W 2 (by decide)]
  simp only [wc, if_neg (al_in hj (by decide))]
  rw [al_cl (show j < 2147483648 by omega), pw_wr h w W (sw W 0 (upd (W 0) j v)) 2 _ (by decide) (by simp only [wc]; rw [sw_eq]) (fun e he hne => wc_f0 w W _ e he hne)]
theorem pw_lnI3 {β : Type} (h : jh) (w : Nat) (W : ms) (K : Int32 → Option β) : lnI (pw h w W) (w + 3) K = K (nI 16) := by
  unfold lnI
  rw [pw_at h w W 3 (by decide)]
  rfl
theorem cr1 {β : Type} (h : jh) (w : Nat) (W : ms) (j : Nat) (K : Int32 → Option β) (hj : j < 16) : aI (pw h w W) (w + 3) (nI j) K = K (W 1 j) := by
  unfold aI jai
  rw [pw_at h w W 3 (by decide)]
  simp only [wc, if_neg (al_in hj (by decide))]
  rw [al_cl (show j < 2147483648 by omega)]
theorem cw1 {β : Type} (h : jh) (w : Nat) (W : ms) (j : Nat) (v : Int32) (K : jh → Option β) (hj : j < 16) : sI (pw h w W) (w + 3) (nI j) v K = K (pw h w (sw W 1 (upd (W 1) j v))) := by
  unfold sI jsi
  rw [pw_at h w W 3 (by decide)]
  simp only [wc, if_neg (al_in hj (by decide))]
  rw [al_cl (show j < 2147483648 by omega), pw_wr h w W (sw W 1 (upd (W 1) j v)) 3 _ (by decide) (by simp only [wc]; rw [sw_eq]) (fun e he hne => wc_f1 w W _ e he hne)]
theorem pw_lnI4 {β : Type} (h : jh) (w : Nat) (W : ms) (K : Int32 → Option β) : lnI (pw h w W) (w + 4) K = K (nI 16) := by
  unfold lnI
  rw [pw_at h w W 4 (by decide)]
  rfl
theorem cr2 {β : Type} (h : jh) (w : Nat) (W : ms) (j : Nat) (K : Int32 → Option β) (hj : j < 16) : aI (pw h w W) (w + 4) (nI j) K = K (W 2 j) := by
  unfold aI jai
  rw [pw_at h w W 4 (by decide)]
  simp only [wc, if_neg (al_in hj (by decide))]
  rw [al_cl (show j < 2147483648 by omega)]
theorem cw2 {β : Type} (h : jh) (w : Nat) (W : ms) (j : Nat) (v : Int32) (K : jh → Option β) (hj : j < 16) : sI (pw h w W) (w + 4) (nI j) v K = K (pw h w (sw W 2 (upd (W 2) j v))) := by
  unfold sI jsi
  rw [pw_at h w W 4 (by decide)]
  simp only [wc, if_neg (al_in hj (by decide))]
  rw [al_cl (show j < 2147483648 by omega), pw_wr h w W (sw W 2 (upd (W 2) j v)) 4 _ (by decide) (by simp only [wc]; rw [sw_eq]) (fun e he hne => wc_f2 w W _ e he hne)]
theorem pw_lnI5 {β : Type} (h : jh) (w : Nat) (W : ms) (K : Int32 → Option β) : lnI (pw h w W) (w + 5) K = K (nI 16) := by
  unfold lnI
  rw [pw_at h w W 5 (by decide)]
  rfl
theorem cr3 {β : Type} (h : jh) (w : Nat) (W : ms) (j : Nat) (K : Int32 → Option β) (hj : j < 16) : aI (pw h w W) (w + 5) (nI j) K = K (W 3 j) := by
  unfold aI jai
  rw [pw_at h w W 5 (by decide)]
  simp only [wc, if_neg (al_in hj (by decide))]
  rw [al_cl (show j < 2147483648 by omega)]
theorem cw3 {β : Type} (h : jh) (w : Nat) (W : ms) (j : Nat) (v : Int32) (K : jh → Option β) (hj : j < 16) : sI (pw h w W) (w + 5) (nI j) v K = K (pw h w (sw W 3 (upd (W 3) j v))) := by
  unfold sI jsi
  rw [pw_at h w W 5 (by decide)]
  simp only [wc, if_neg (al_in hj (by decide))]
  rw [al_cl (show j < 2147483648 by omega), pw_wr h w W (sw W 3 (upd (W 3) j v)) 5 _ (by decide) (by simp only [wc]; rw [sw_eq]) (fun e he hne => wc_f3 w W _ e he hne)]
theorem pw_lnI6 {β : Type} (h : jh) (w : Nat) (W : ms) (K : Int32 → Option β) : lnI (pw h w W) (w + 6) K = K (nI 16) := by
  unfold lnI
  rw [pw_at h w W 6 (by decide)]
  rfl
theorem cr4 {β : Type} (h : jh) (w : Nat) (W : ms) (j : Nat) (K : Int32 → Option β) (hj : j < 16) : aI (pw h w W) (w + 6) (nI j) K = K (W 4 j) := by
  unfold aI jai
  rw [pw_at h w W 6 (by decide)]
  simp only [wc, if_neg (al_in hj (by decide))]
  rw [al_cl (show j < 2147483648 by omega)]
theorem cw4 {β : Type} (h : jh) (w : Nat) (W : ms) (j : Nat) (v : Int32) (K : jh → Option β) (hj : j < 16) : sI (pw h w W) (w + 6) (nI j) v K = K (pw h w (sw W 4 (upd (W 4) j v))) := by
  unfold sI jsi
  rw [pw_at h w W 6 (by decide)]
  simp only [wc, if_neg (al_in hj (by decide))]
  rw [al_cl (show j < 2147483648 by omega), pw_wr h w W (sw W 4 (upd (W 4) j v)) 6 _ (by decide) (by simp only [wc]; rw [sw_eq]) (fun e he hne => wc_f4 w W _ e he hne)]
theorem pw_lnI7 {β : Type} (h : jh) (w : Nat) (W : ms) (K : Int32 → Option β) : lnI (pw h w W) (w + 7) K = K (nI 16) := by
  unfold lnI
  rw [pw_at h w W 7 (by decide)]
  rfl
theorem cr5 {β : Type} (h : jh) (w : Nat) (W : ms) (j : Nat) (K : Int32 → Option β) (hj : j < 16) : aI (pw h w W) (w + 7) (nI j) K = K (W 5 j) := by
  unfold aI jai
  rw [pw_at h w W 7 (by decide)]
  simp only [wc, if_neg (al_in hj (by decide))]
  rw [al_cl (show j < 2147483648 by omega)]
theorem cw5 {β : Type} (h : jh) (w : Nat) (W : ms) (j : Nat) (v : Int32) (K : jh → Option β) (hj : j < 16) : sI (pw h w W) (w + 7) (nI j) v K = K (pw h w (sw W 5 (upd (W 5) j v))) := by
  unfold sI jsi
  rw [pw_at h w W 7 (by decide)]
  simp only [wc, if_neg (al_in hj (by decide))]
  rw [al_cl (show j < 2147483648 by omega), pw_wr h w W (sw W 5 (upd (W 5) j v)) 7 _ (by decide) (by simp only [wc]; rw [sw_eq]) (fun e he hne => wc_f5 w W _ e he hne)]
theorem pw_lnI8 {β : Type} (h : jh) (w : Nat) (W : ms) (K : Int32 → Option β) : lnI (pw h w W) (w + 8) K = K (nI 128) := by
  unfold lnI
  rw [pw_at h w W 8 (by decide)]
  rfl
theorem cr6 {β : Type} (h : jh) (w : Nat) (W : ms) (j : Nat) (K : Int32 → Option β) (hj : j < 128) : aI (pw h w W) (w + 8) (nI j) K = K (W 6 j) := by
  unfold aI jai
  rw [pw_at h w W 8 (by decide)]
  simp only [wc, if_neg (al_in hj (by decide))]
  rw [al_cl (show j < 2147483648 by omega)]
theorem cw6 {β : Type} (h : jh) (w : Nat) (W : ms) (j : Nat) (v : Int32) (K : jh → Option β) (hj : j < 128) : sI (pw h w W) (w + 8) (nI j) v K = K (pw h w (sw W 6 (upd (W 6) j v))) := by
  unfold sI jsi
  rw [pw_at h w W 8 (by decide)]
  simp only [wc, if_neg (al_in hj (by decide))]
  rw [al_cl (show j < 2147483648 by omega), pw_wr h w W (sw W 6 (upd (W 6) j v)) 8 _ (by decide) (by simp only [wc]; rw [sw_eq]) (fun e he hne => wc_f6 w W _ e he hne)]
theorem pw_cV9 {γ β : Type} (h : jh) (w : Nat) (W : ms) (o : Option (γ × jh)) (K : γ → jh → Option β) : cV (pw h w W) (w + 9) 2 o K = bd o K := by
  unfold cV
  rw [if_pos]
  unfold isO
  rw [pw_at h w W 9 (by decide)]
  rfl
theorem pw_jg9 (h : jh) (w : Nat) (W : ms) (k : Nat) : jg (pw h w W) (w + 9) 2 k = (wo9 w W)[k]? := by
  unfold jg
  rw [pw_at h w W 9 (by decide)]
  exact if_pos rfl
theorem pw_jp9 (h : jh) (w : Nat) (W : ms) (k : Nat) (v : Value) (hk : k < 4) : jp (pw h w W) (w + 9) 2 k v = some (jv_wr (pw h w W) (w + 9) (jO 2 ((wo9 w W).set k v))) := by
  unfold jp
  rw [pw_at h w W 9 (by decide)]
  exact if_pos ⟨rfl, hk⟩
theorem pw_gR9_0 {β : Type} (h : jh) (w : Nat) (W : ms) (K : Nat → Option β) : gR (pw h w W) (w + 9) 2 0 K = K (w + 10) := by unfold gR; rw [pw_jg9]; rfl
theorem pw_gR9_1 {β : Type} (h : jh) (w : Nat) (W : ms) (K : Nat → Option β) : gR (pw h w W) (w + 9) 2 1 K = K (w + 12) := by unfold gR; rw [pw_jg9]; rfl
theorem pw_gR9_2 {β : Type} (h : jh) (w : Nat) (W : ms) (K : Nat → Option β) : gR (pw h w W) (w + 9) 2 2 K = K (w + 13) := by unfold gR; rw [pw_jg9]; rfl
theorem pw_gR9_3 {β : Type} (h : jh) (w : Nat) (W : ms) (K : Nat → Option β) : gR (pw h w W) (w + 9) 2 3 K = K (w + 14) := by unfold gR; rw [pw_jg9]; rfl
theorem pw_cV10 {γ β : Type} (h : jh) (w : Nat) (W : ms) (o : Option (γ × jh)) (K : γ → jh → Option β) : cV (pw h w W) (w + 10) 7 o K = bd o K := by
  unfold cV
  rw [if_pos]
  unfold isO
  rw [pw_at h w W 10 (by decide)]
  rfl
theorem pw_jg10 (h : jh) (w : Nat) (W : ms) (k : Nat) : jg (pw h w W) (w + 10) 7 k = (wo10 w W)[k]? := by
  unfold jg
  rw [pw_at h w W 10 (by decide)]
  exact if_pos rfl
theorem pw_jp10 (h : jh) (w : Nat) (W : ms) (k : Nat) (v : Value) (hk : k < 2) : jp (pw h w W) (w + 10) 7 k v = some (jv_wr (pw h w W) (w + 10) (jO 7 ((wo10 w W).set k v))) := by
  unfold jp
  rw [pw_at h w W 10 (by decide)]
  exact if_pos ⟨rfl, hk⟩
theorem pw_gR10_0 {β : Type} (h : jh) (w : Nat) (W : ms) (K : Nat → Option β) : gR (pw h w W) (w + 10) 7 0 K = K (w + 11) := by unfold gR; rw [pw_jg10]; rfl
theorem pw_gI10_1 {β : Type} (h : jh) (w : Nat) (W : ms) (K : Int32 → Option β) : gI (pw h w W) (w + 10) 7 1 K = K (W 10 0) := by unfold gI; rw [pw_jg10]; rfl
theorem pw_pV10_1 {β : Type} (h : jh) (w : Nat) (W : ms) (v : Int32) (K : jh → Option β) : pV (pw h w W) (w + 10) 7 1 (.int v) K = K (pw h w (sw W 10 (fun _ => v))) := by
  unfold pV
  rw [pw_jp10 h w W 1 _ (by decide)]
  show K _ = _
  rw [pw_wr h w W (sw W 10 (fun _ => v)) 10 _ (by decide) (by simp [wc, wo10, sw]) (fun e he hne => wc_f10 w W _ e he hne)]
theorem pw_lnI11 {β : Type} (h : jh) (w : Nat) (W : ms) (K : Int32 → Option β) : lnI (pw h w W) (w + 11) K = K (nI 8) := by
  unfold lnI
  rw [pw_at h w W 11 (by decide)]
  rfl
theorem cr9 {β : Type} (h : jh) (w : Nat) (W : ms) (j : Nat) (K : Int32 → Option β) (hj : j < 8) : aI (pw h w W) (w + 11) (nI j) K = K (W 9 j) := by
  unfold aI jai
  rw [pw_at h w W 11 (by decide)]
  simp only [wc, if_neg (al_in hj (by decide))]
  rw [al_cl (show j < 2147483648 by omega)]
theorem cw9 {β : Type} (h : jh) (w : Nat) (W : ms) (j : Nat) (v : Int32) (K : jh → Option β) (hj : j < 8) : sI (pw h w W) (w + 11) (nI j) v K = K (pw h w (sw W 9 (upd (W 9) j v))) := by
  unfold sI jsi
  rw [pw_at h w W 11 (by decide)]
  simp only [wc, if_neg (al_in hj (by decide))]
  rw [al_cl (show j < 2147483648 by omega), pw_wr h w W (sw W 9 (upd (W 9) j v)) 11 _ (by decide) (by simp only [wc]; rw [sw_eq]) (fun e he hne => wc_f9 w W _ e he hne)]
theorem pw_lnI12 {β : Type} (h : jh) (w : Nat) (W : ms) (K : Int32 → Option β) : lnI (pw h w W) (w + 12) K = K (nI 8) := by
  unfold lnI
  rw [pw_at h w W 12 (by decide)]
  rfl
theorem cr11 {β : Type} (h : jh) (w : Nat) (W : ms) (j : Nat) (K : Int32 → Option β) (hj : j < 8) : aI (pw h w W) (w + 12) (nI j) K = K (W 11 j) := by
  unfold aI jai
  rw [pw_at h w W 12 (by decide)]
  simp only [wc, if_neg (al_in hj (by decide))]
  rw [al_cl (show j < 2147483648 by omega)]
theorem cw11 {β : Type} (h : jh) (w : Nat) (W : ms) (j : Nat) (v : Int32) (K : jh → Option β) (hj : j < 8) : sI (pw h w W) (w + 12) (nI j) v K = K (pw h w (sw W 11 (upd (W 11) j v))) := by
  unfold sI jsi
  rw [pw_at h w W 12 (by decide)]
  simp only [wc, if_neg (al_in hj (by decide))]
  rw [al_cl (show j < 2147483648 by omega), pw_wr h w W (sw W 11 (upd (W 11) j v)) 12 _ (by decide) (by simp only [wc]; rw [sw_eq]) (fun e he hne => wc_f11 w W _ e he hne)]
theorem pw_lnI13 {β : Type} (h : jh) (w : Nat) (W : ms) (K : Int32 → Option β) : lnI (pw h w W) (w + 13) K = K (nI 8) := by
  unfold lnI
  rw [pw_at h w W 13 (by decide)]
  rfl
theorem cr12 {β : Type} (h : jh) (w : Nat) (W : ms) (j : Nat) (K : Int32 → Option β) (hj : j < 8) : aI (pw h w W) (w + 13) (nI j) K = K (W 12 j) := by
  unfold aI jai
  rw [pw_at h w W 13 (by decide)]
  simp only [wc, if_neg (al_in hj (by decide))]
  rw [al_cl (show j < 2147483648 by omega)]
theorem cw12 {β : Type} (h : jh) (w : Nat) (W : ms) (j : Nat) (v : Int32) (K : jh → Option β) (hj : j < 8) : sI (pw h w W) (w + 13) (nI j) v K = K (pw h w (sw W 12 (upd (W 12) j v))) := by
  unfold sI jsi
  rw [pw_at h w W 13 (by decide)]
  simp only [wc, if_neg (al_in hj (by decide))]
  rw [al_cl (show j < 2147483648 by omega), pw_wr h w W (sw W 12 (upd (W 12) j v)) 13 _ (by decide) (by simp only [wc]; rw [sw_eq]) (fun e he hne => wc_f12 w W _ e he hne)]
theorem pw_lnI14 {β : Type} (h : jh) (w : Nat) (W : ms) (K : Int32 → Option β) : lnI (pw h w W) (w + 14) K = K (nI 8) := by
  unfold lnI
  rw [pw_at h w W 14 (by decide)]
  rfl
theorem cr13 {β : Type} (h : jh) (w : Nat) (W : ms) (j : Nat) (K : Int32 → Option β) (hj : j < 8) : aI (pw h w W) (w + 14) (nI j) K = K (W 13 j) := by
  unfold aI jai
  rw [pw_at h w W 14 (by decide)]
  simp only [wc, if_neg (al_in hj (by decide))]
  rw [al_cl (show j < 2147483648 by omega)]
theorem cw13 {β : Type} (h : jh) (w : Nat) (W : ms) (j : Nat) (v : Int32) (K : jh → Option β) (hj : j < 8) : sI (pw h w W) (w + 14) (nI j) v K = K (pw h w (sw W 13 (upd (W 13) j v))) := by
  unfold sI jsi
  rw [pw_at h w W 14 (by decide)]
  simp only [wc, if_neg (al_in hj (by decide))]
  rw [al_cl (show j < 2147483648 by omega), pw_wr h w W (sw W 13 (upd (W 13) j v)) 14 _ (by decide) (by simp only [wc]; rw [sw_eq]) (fun e he hne => wc_f13 w W _ e he hne)]
theorem pw_cV15 {γ β : Type} (h : jh) (w : Nat) (W : ms) (o : Option (γ × jh)) (K : γ → jh → Option β) : cV (pw h w W) (w + 15) 8 o K = bd o K := by
  unfold cV
  rw [if_pos]
  unfold isO
  rw [pw_at h w W 15 (by decide)]
  rfl
theorem pw_jg15 (h : jh) (w : Nat) (W : ms) (k : Nat) : jg (pw h w W) (w + 15) 8 k = (wo15 w W)[k]? := by
  unfold jg
  rw [pw_at h w W 15 (by decide)]
  exact if_pos rfl
theorem pw_jp15 (h : jh) (w : Nat) (W : ms) (k : Nat) (v : Value) (hk : k < 6) : jp (pw h w W) (w + 15) 8 k v = some (jv_wr (pw h w W) (w + 15) (jO 8 ((wo15 w W).set k v))) := by
  unfold jp
  rw [pw_at h w W 15 (by decide)]
  exact if_pos ⟨rfl, hk⟩
theorem pw_gR15_0 {β : Type} (h : jh) (w : Nat) (W : ms) (K : Nat → Option β) : gR (pw h w W) (w + 15) 8 0 K = K (w + 16) := by unfold gR; rw [pw_jg15]; rfl
theorem pw_gR15_1 {β : Type} (h : jh) (w : Nat) (W : ms) (K : Nat → Option β) : gR (pw h w W) (w + 15) 8 1 K = K (w + 18) := by unfold gR; rw [pw_jg15]; rfl
theorem pw_gR15_2 {β : Type} (h : jh) (w : Nat) (W : ms) (K : Nat → Option β) : gR (pw h w W) (w + 15) 8 2 K = K (w + 19) := by unfold gR; rw [pw_jg15]; rfl
theorem pw_gR15_3 {β : Type} (h : jh) (w : Nat) (W : ms) (K : Nat → Option β) : gR (pw h w W) (w + 15) 8 3 K = K (w + 20) := by unfold gR; rw [pw_jg15]; rfl
theorem pw_gR15_4 {β : Type} (h : jh) (w : Nat) (W : ms) (K : Nat → Option β) : gR (pw h w W) (w + 15) 8 4 K = K (w + 21) := by unfold gR; rw [pw_jg15]; rfl
theorem pw_gR15_5 {β : Type} (h : jh) (w : Nat) (W : ms) (K : Nat → Option β) : gR (pw h w W) (w + 15) 8 5 K = K (w + 22) := by unfold gR; rw [pw_jg15]; rfl
theorem pw_cV16 {γ β : Type} (h : jh) (w : Nat) (W : ms) (o : Option (γ × jh)) (K : γ → jh → Option β) : cV (pw h w W) (w + 16) 7 o K = bd o K := by
  unfold cV
  rw [if_pos]
  unfold isO
  rw [pw_at h w W 16 (by decide)]
  rfl
theorem pw_jg16 (h : jh) (w : Nat) (W : ms) (k : Nat) : jg (pw h w W) (w + 16) 7 k = (wo16 w W)[k]? := by
  unfold jg
  rw [pw_at h w W 16 (by decide)]
  exact if_pos rfl
theorem pw_jp16 (h : jh) (w : Nat) (W : ms) (k : Nat) (v : Value) (hk : k < 2) : jp (pw h w W) (w + 16) 7 k v = some (jv_wr (pw h w W) (w + 16) (jO 7 ((wo16 w W).set k v))) := by
  unfold jp
  rw [pw_at h w W 16 (by decide)]
  exact if_pos ⟨rfl, hk⟩
theorem pw_gR16_0 {β : Type} (h : jh) (w : Nat) (W : ms) (K : Nat → Option β) : gR (pw h w W) (w + 16) 7 0 K = K (w + 17) := by unfold gR; rw [pw_jg16]; rfl
theorem pw_gI16_1 {β : Type} (h : jh) (w : Nat) (W : ms) (K : Int32 → Option β) : gI (pw h w W) (w + 16) 7 1 K = K (W 15 0) := by unfold gI; rw [pw_jg16]; rfl
theorem pw_pV16_1 {β : Type} (h : jh) (w : Nat) (W : ms) (v : Int32) (K : jh → Option β) : pV (pw h w W) (w + 16) 7 1 (.int v) K = K (pw h w (sw W 15 (fun _ => v))) := by
  unfold pV
  rw [pw_jp16 h w W 1 _ (by decide)]
  show K _ = _
  rw [pw_wr h w W (sw W 15 (fun _ => v)) 16 _ (by decide) (by simp [wc, wo16, sw]) (fun e he hne => wc_f15 w W _ e he hne)]
theorem pw_lnI17 {β : Type} (h : jh) (w : Nat) (W : ms) (K : Int32 → Option β) : lnI (pw h w W) (w + 17) K = K (nI 8) := by
  unfold lnI
  rw [pw_at h w W 17 (by decide)]
  rfl
theorem cr14 {β : Type} (h : jh) (w : Nat) (W : ms) (j : Nat) (K : Int32 → Option β) (hj : j < 8) : aI (pw h w W) (w + 17) (nI j) K = K (W 14 j) := by
  unfold aI jai
  rw [pw_at h w W 17 (by decide)]
  simp only [wc, if_neg (al_in hj (by decide))]
  rw [al_cl (show j < 2147483648 by omega)]
theorem cw14 {β : Type} (h : jh) (w : Nat) (W : ms) (j : Nat) (v : Int32) (K : jh → Option β) (hj : j < 8) : sI (pw h w W) (w + 17) (nI j) v K = K (pw h w (sw W 14 (upd (W 14) j v))) := by
  unfold sI jsi
  rw [pw_at h w W 17 (by decide)]
  simp only [wc, if_neg (al_in hj (by decide))]
  rw [al_cl (show j < 2147483648 by omega), pw_wr h w W (sw W 14 (upd (W 14) j v)) 17 _ (by decide) (by simp only [wc]; rw [sw_eq]) (fun e he hne => wc_f14 w W _ e he hne)]
theorem pw_lnI18 {β : Type} (h : jh) (w : Nat) (W : ms) (K : Int32 → Option β) : lnI (pw h w W) (w + 18) K = K (nI 8) := by
  unfold lnI
  rw [pw_at h w W 18 (by decide)]
  rfl
theorem cr16 {β : Type} (h : jh) (w : Nat) (W : ms) (j : Nat) (K : Int32 → Option β) (hj : j < 8) : aI (pw h w W) (w + 18) (nI j) K = K (W 16 j) := by
  unfold aI jai
  rw [pw_at h w W 18 (by decide)]
  simp only [wc, if_neg (al_in hj (by decide))]
  rw [al_cl (show j < 2147483648 by omega)]
theorem cw16 {β : Type} (h : jh) (w : Nat) (W : ms) (j : Nat) (v : Int32) (K : jh → Option β) (hj : j < 8) : sI (pw h w W) (w + 18) (nI j) v K = K (pw h w (sw W 16 (upd (W 16) j v))) := by
  unfold sI jsi
  rw [pw_at h w W 18 (by decide)]
  simp only [wc, if_neg (al_in hj (by decide))]
  rw [al_cl (show j < 2147483648 by omega), pw_wr h w W (sw W 16 (upd (W 16) j v)) 18 _ (by decide) (by simp only [wc]; rw [sw_eq]) (fun e he hne => wc_f16 w W _ e he hne)]
theorem pw_lnI19 {β : Type} (h : jh) (w : Nat) (W : ms) (K : Int32 → Option β) : lnI (pw h w W) (w + 19) K = K (nI 8) := by
  unfold lnI
  rw [pw_at h w W 19 (by decide)]
  rfl
theorem cr17 {β : Type} (h : jh) (w : Nat) (W : ms) (j : Nat) (K : Int32 → Option β) (hj : j < 8) : aI (pw h w W) (w + 19) (nI j) K = K (W 17 j) := by
  unfold aI jai
  rw [pw_at h w W 19 (by decide)]
  simp only [wc, if_neg (al_in hj (by decide))]
  rw [al_cl (show j < 2147483648 by omega)]
theorem cw17 {β : Type} (h : jh) (w : Nat) (W : ms) (j : Nat) (v : Int32) (K : jh → Option β) (hj : j < 8) : sI (pw h w W) (w + 19) (nI j) v K = K (pw h w (sw W 17 (upd (W 17) j v))) := by
  unfold sI jsi
  rw [pw_at h w W 19 (by decide)]
  simp only [wc, if_neg (al_in hj (by decide))]
  rw [al_cl (show j < 2147483648 by omega), pw_wr h w W (sw W 17 (upd (W 17) j v)) 19 _ (by decide) (by simp only [wc]; rw [sw_eq]) (fun e he hne => wc_f17 w W _ e he hne)]
theorem pw_lnI20 {β : Type} (h : jh) (w : Nat) (W : ms) (K : Int32 → Option β) : lnI (pw h w W) (w + 20) K = K (nI 24) := by
  unfold lnI
  rw [pw_at h w W 20 (by decide)]
  rfl
theorem cr18 {β : Type} (h : jh) (w : Nat) (W : ms) (j : Nat) (K : Int32 → Option β) (hj : j < 24) : aI (pw h w W) (w + 20) (nI j) K = K (W 18 j) := by
  unfold aI jai
  rw [pw_at h w W 20 (by decide)]
  simp only [wc, if_neg (al_in hj (by decide))]
  rw [al_cl (show j < 2147483648 by omega)]
theorem cw18 {β : Type} (h : jh) (w : Nat) (W : ms) (j : Nat) (v : Int32) (K : jh → Option β) (hj : j < 24) : sI (pw h w W) (w + 20) (nI j) v K = K (pw h w (sw W 18 (upd (W 18) j v))) := by
  unfold sI jsi
  rw [pw_at h w W 20 (by decide)]
  simp only [wc, if_neg (al_in hj (by decide))]
  rw [al_cl (show j < 2147483648 by omega), pw_wr h w W (sw W 18 (upd (W 18) j v)) 20 _ (by decide) (by simp only [wc]; rw [sw_eq]) (fun e he hne => wc_f18 w W _ e he hne)]
theorem pw_lnI21 {β : Type} (h : jh) (w : Nat) (W : ms) (K : Int32 → Option β) : lnI (pw h w W) (w + 21) K = K (nI 24) := by
  unfold lnI
  rw [pw_at h w W 21 (by decide)]
  rfl
theorem cr19 {β : Type} (h : jh) (w : Nat) (W : ms) (j : Nat) (K : Int32 → Option β) (hj : j < 24) : aI (pw h w W) (w + 21) (nI j) K = K (W 19 j) := by
  unfold aI jai
  rw [pw_at h w W 21 (by decide)]
  simp only [wc, if_neg (al_in hj (by decide))]
  rw [al_cl (show j < 2147483648 by omega)]
theorem cw19 {β : Type} (h : jh) (w : Nat) (W : ms) (j : Nat) (v : Int32) (K : jh → Option β) (hj : j < 24) : sI (pw h w W) (w + 21) (nI j) v K = K (pw h w (sw W 19 (upd (W 19) j v))) := by
  unfold sI jsi
  rw [pw_at h w W 21 (by decide)]
  simp only [wc, if_neg (al_in hj (by decide))]
  rw [al_cl (show j < 2147483648 by omega), pw_wr h w W (sw W 19 (upd (W 19) j v)) 21 _ (by decide) (by simp only [wc]; rw [sw_eq]) (fun e he hne => wc_f19 w W _ e he hne)]
theorem pw_lnI22 {β : Type} (h : jh) (w : Nat) (W : ms) (K : Int32 → Option β) : lnI (pw h w W) (w + 22) K = K (nI 24) := by
  unfold lnI
  rw [pw_at h w W 22 (by decide)]
  rfl
theorem cr20 {β : Type} (h : jh) (w : Nat) (W : ms) (j : Nat) (K : Int32 → Option β) (hj : j < 24) : aI (pw h w W) (w + 22) (nI j) K = K (W 20 j) := by
  unfold aI jai
  rw [pw_at h w W 22 (by decide)]
  simp only [wc, if_neg (al_in hj (by decide))]
  rw [al_cl (show j < 2147483648 by omega)]
theorem cw20 {β : Type} (h : jh) (w : Nat) (W : ms) (j : Nat) (v : Int32) (K : jh → Option β) (hj : j < 24) : sI (pw h w W) (w + 22) (nI j) v K = K (pw h w (sw W 20 (upd (W 20) j v))) := by
  unfold sI jsi
  rw [pw_at h w W 22 (by decide)]
  simp only [wc, if_neg (al_in hj (by decide))]
  rw [al_cl (show j < 2147483648 by omega), pw_wr h w W (sw W 20 (upd (W 20) j v)) 22 _ (by decide) (by simp only [wc]; rw [sw_eq]) (fun e he hne => wc_f20 w W _ e he hne)]
theorem pw_cV23 {γ β : Type} (h : jh) (w : Nat) (W : ms) (o : Option (γ × jh)) (K : γ → jh → Option β) : cV (pw h w W) (w + 23) 0 o K = bd o K := by
  unfold cV
  rw [if_pos]
  unfold isO
  rw [pw_at h w W 23 (by decide)]
  rfl
theorem pw_jg23 (h : jh) (w : Nat) (W : ms) (k : Nat) : jg (pw h w W) (w + 23) 0 k = (wo23 w W)[k]? := by
  unfold jg
  rw [pw_at h w W 23 (by decide)]
  exact if_pos rfl
theorem pw_jp23 (h : jh) (w : Nat) (W : ms) (k : Nat) (v : Value) (hk : k < 4) : jp (pw h w W) (w + 23) 0 k v = some (jv_wr (pw h w W) (w + 23) (jO 0 ((wo23 w W).set k v))) := by
  unfold jp
  rw [pw_at h w W 23 (by decide)]
  exact if_pos ⟨rfl, hk⟩
theorem pw_gR23_0 {β : Type} (h : jh) (w : Nat) (W : ms) (K : Nat → Option β) : gR (pw h w W) (w + 23) 0 0 K = K (w + 24) := by unfold gR; rw [pw_jg23]; rfl
theorem pw_gR23_1 {β : Type} (h : jh) (w : Nat) (W : ms) (K : Nat → Option β) : gR (pw h w W) (w + 23) 0 1 K = K (w + 26) := by unfold gR; rw [pw_jg23]; rfl
theorem pw_gR23_2 {β : Type} (h : jh) (w : Nat) (W : ms) (K : Nat → Option β) : gR (pw h w W) (w + 23) 0 2 K = K (w + 27) := by unfold gR; rw [pw_jg23]; rfl
theorem pw_gI23_3 {β : Type} (h : jh) (w : Nat) (W : ms) (K : Int32 → Option β) : gI (pw h w W) (w + 23) 0 3 K = K (W 25 0) := by unfold gI; rw [pw_jg23]; rfl
theorem pw_pV23_3 {β : Type} (h : jh) (w : Nat) (W : ms) (v : Int32) (K : jh → Option β) : pV (pw h w W) (w + 23) 0 3 (.int v) K = K (pw h w (sw W 25 (fun _ => v))) := by
  unfold pV
  rw [pw_jp23 h w W 3 _ (by decide)]
  show K _ = _
  rw [pw_wr h w W (sw W 25 (fun _ => v)) 23 _ (by decide) (by simp [wc, wo23, sw]) (fun e he hne => wc_f25 w W _ e he hne)]
theorem pw_cV24 {γ β : Type} (h : jh) (w : Nat) (W : ms) (o : Option (γ × jh)) (K : γ → jh → Option β) : cV (pw h w W) (w + 24) 7 o K = bd o K := by
  unfold cV
  rw [if_pos]
  unfold isO
  rw [pw_at h w W 24 (by decide)]
  rfl
theorem pw_jg24 (h : jh) (w : Nat) (W : ms) (k : Nat) : jg (pw h w W) (w + 24) 7 k = (wo24 w W)[k]? := by
  unfold jg
  rw [pw_at h w W 24 (by decide)]
  exact if_pos rfl
theorem pw_jp24 (h : jh) (w : Nat) (W : ms) (k : Nat) (v : Value) (hk : k < 2) : jp (pw h w W) (w + 24) 7 k v = some (jv_wr (pw h w W) (w + 24) (jO 7 ((wo24 w W).set k v))) := by
  unfold jp
  rw [pw_at h w W 24 (by decide)]
  exact if_pos ⟨rfl, hk⟩
theorem pw_gR24_0 {β : Type} (h : jh) (w : Nat) (W : ms) (K : Nat → Option β) : gR (pw h w W) (w + 24) 7 0 K = K (w + 25) := by unfold gR; rw [pw_jg24]; rfl
theorem pw_gI24_1 {β : Type} (h : jh) (w : Nat) (W : ms) (K : Int32 → Option β) : gI (pw h w W) (w + 24) 7 1 K = K (W 22 0) := by unfold gI; rw [pw_jg24]; rfl
theorem pw_pV24_1 {β : Type} (h : jh) (w : Nat) (W : ms) (v : Int32) (K : jh → Option β) : pV (pw h w W) (w + 24) 7 1 (.int v) K = K (pw h w (sw W 22 (fun _ => v))) := by
  unfold pV
  rw [pw_jp24 h w W 1 _ (by decide)]
  show K _ = _
  rw [pw_wr h w W (sw W 22 (fun _ => v)) 24 _ (by decide) (by simp [wc, wo24, sw]) (fun e he hne => wc_f22 w W _ e he hne)]
theorem pw_lnI25 {β : Type} (h : jh) (w : Nat) (W : ms) (K : Int32 → Option β) : lnI (pw h w W) (w + 25) K = K (nI 8) := by
  unfold lnI
  rw [pw_at h w W 25 (by decide)]
  rfl
theorem cr21 {β : Type} (h : jh) (w : Nat) (W : ms) (j : Nat) (K : Int32 → Option β) (hj : j < 8) : aI (pw h w W) (w + 25) (nI j) K = K (W 21 j) := by
  unfold aI jai
  rw [pw_at h w W 25 (by decide)]
  simp only [wc, if_neg (al_in hj (by decide))]
  rw [al_cl (show j < 2147483648 by omega)]
theorem cw21 {β : Type} (h : jh) (w : Nat) (W : ms) (j : Nat) (v : Int32) (K : jh → Option β) (hj : j < 8) : sI (pw h w W) (w + 25) (nI j) v K = K (pw h w (sw W 21 (upd (W 21) j v))) := by
  unfold sI jsi
  rw [pw_at h w W 25 (by decide)]
  simp only [wc, if_neg (al_in hj (by decide))]
  rw [al_cl (show j < 2147483648 by omega), pw_wr h w W (sw W 21 (upd (W 21) j v)) 25 _ (by decide) (by simp only [wc]; rw [sw_eq]) (fun e he hne => wc_f21 w W _ e he hne)]
theorem pw_lnI26 {β : Type} (h : jh) (w : Nat) (W : ms) (K : Int32 → Option β) : lnI (pw h w W) (w + 26) K = K (nI 8) := by
  unfold lnI
  rw [pw_at h w W 26 (by decide)]
  rfl
theorem cr23 {β : Type} (h : jh) (w : Nat) (W : ms) (j : Nat) (K : Int32 → Option β) (hj : j < 8) : aI (pw h w W) (w + 26) (nI j) K = K (W 23 j) := by
  unfold aI jai
  rw [pw_at h w W 26 (by decide)]
  simp only [wc, if_neg (al_in hj (by decide))]
  rw [al_cl (show j < 2147483648 by omega)]
theorem cw23 {β : Type} (h : jh) (w : Nat) (W : ms) (j : Nat) (v : Int32) (K : jh → Option β) (hj : j < 8) : sI (pw h w W) (w + 26) (nI j) v K = K (pw h w (sw W 23 (upd (W 23) j v))) := by
  unfold sI jsi
  rw [pw_at h w W 26 (by decide)]
  simp only [wc, if_neg (al_in hj (by decide))]
  rw [al_cl (show j < 2147483648 by omega), pw_wr h w W (sw W 23 (upd (W 23) j v)) 26 _ (by decide) (by simp only [wc]; rw [sw_eq]) (fun e he hne => wc_f23 w W _ e he hne)]
theorem pw_lnI27 {β : Type} (h : jh) (w : Nat) (W : ms) (K : Int32 → Option β) : lnI (pw h w W) (w + 27) K = K (nI 64) := by
  unfold lnI
  rw [pw_at h w W 27 (by decide)]
  rfl
theorem cr24 {β : Type} (h : jh) (w : Nat) (W : ms) (j : Nat) (K : Int32 → Option β) (hj : j < 64) : aI (pw h w W) (w + 27) (nI j) K = K (W 24 j) := by
  unfold aI jai
  rw [pw_at h w W 27 (by decide)]
  simp only [wc, if_neg (al_in hj (by decide))]
  rw [al_cl (show j < 2147483648 by omega)]
theorem cw24 {β : Type} (h : jh) (w : Nat) (W : ms) (j : Nat) (v : Int32) (K : jh → Option β) (hj : j < 64) : sI (pw h w W) (w + 27) (nI j) v K = K (pw h w (sw W 24 (upd (W 24) j v))) := by
  unfold sI jsi
  rw [pw_at h w W 27 (by decide)]
  simp only [wc, if_neg (al_in hj (by decide))]
  rw [al_cl (show j < 2147483648 by omega), pw_wr h w W (sw W 24 (upd (W 24) j v)) 27 _ (by decide) (by simp only [wc]; rw [sw_eq]) (fun e he hne => wc_f24 w W _ e he hne)]
