/-! the reference: its state is a function of (field, place); the heap with that state laid at m -/
abbrev ms : Type := Nat → Nat → Int32
def mo (m : Nat) (s : ms) : List Value := [.ref (m + 1), .int (s 1 0), .ref (m + 2), .ref (m + 3), .ref (m + 4), .int (s 5 0), .int (s 6 0), .int (s 7 0), .int (s 8 0), .int (s 9 0), .int (s 10 0), .int (s 11 0), .int (s 12 0), .int (s 13 0), .int (s 14 0), .ref (m + 5), .int (s 16 0), .ref (m + 6), .int (s 18 0), .ref (m + 7), .ref (m + 8), .ref (m + 9), .int (s 22 0), .ref (m + 10), .ref (m + 11), .ref (m + 12), .int (s 26 0), .int (s 27 0), .int (s 28 0), .int (s 29 0), .ref (m + 13), .ref (m + 14), .ref (m + 15), .ref (m + 16), .ref (m + 17), .ref (m + 18)]
def mw : Nat → Option Nat := fun j => if j < 11 then some j else none
def mc (m : Nat) (s : ms) (d : Nat) : jc := match d with
  | 0 => jO 11 (mo m s)
  | 1 => jQ 3 11 mw
  | 2 => jI 595 (s 2)
  | 3 => jI 3 (s 3)
  | 4 => jI 900 (s 4)
  | 5 => jI 360 (s 15)
  | 6 => jI 5 (s 17)
  | 7 => jI 23800 (s 19)
  | 8 => jI 595 (s 20)
  | 9 => jI 128 (s 21)
  | 10 => jI 8 (s 23)
  | 11 => jI 8 (s 24)
  | 12 => jI 8 (s 25)
  | 13 => jI 595 (s 30)
  | 14 => jI 23800 (s 31)
  | 15 => jI 8 (s 32)
  | 16 => jI 8 (s 33)
  | 17 => jI 8 (s 34)
  | _ => jI 3 (s 35)
def pm (h : jh) (m : Nat) (s : ms) : jh := (h.1, h.2.1, fun q => if m ≤ q ∧ q < m + 19 then mc m s (q - m) else h.2.2 q)
def st2 (s : ms) (k i : Nat) (v : Int32) : ms := fun a b => if a = k ∧ b = i then v else s a b
theorem st2_row {s : ms} {k i a : Nat} {v : Int32} (h : a ≠ k) : st2 s k i v a = s a := by
  funext b
  simp [st2, h]
theorem st2_up {s : ms} {k i : Nat} {v : Int32} : st2 s k i v k = upd (s k) i v := by
  funext q
  simp [st2, upd]
theorem pm_at (h : jh) (m : Nat) (s : ms) (d : Nat) (hd : d < 19) : (pm h m s).2.2 (m + d) = mc m s d := by
  show (if m ≤ m + d ∧ m + d < m + 19 then mc m s (m + d - m) else _) = _
  rw [if_pos ⟨by omega, by omega⟩, Nat.add_sub_cancel_left]
theorem pm_0 (h : jh) (m : Nat) (s : ms) : (pm h m s).2.2 m = jO 11 (mo m s) := pm_at h m s 0 (by decide)
theorem pm_wr (h : jh) (m : Nat) (s s' : ms) (d : Nat) (c : jc) (hd : d < 19) (hc : mc m s' d = c) (ho : ∀ e, e < 19 → e ≠ d → mc m s' e = mc m s e) : jv_wr (pm h m s) (m + d) c = pm h m s' := by
  unfold jv_wr pm
  simp only [Prod.mk.injEq, true_and]
  funext q
  by_cases hq : q = m + d
  · subst hq
    rw [if_pos rfl, if_pos ⟨by omega, by omega⟩, Nat.add_sub_cancel_left, hc]
  · rw [if_neg hq]
    by_cases h1 : m ≤ q ∧ q < m + 19
    · rw [if_pos h1, if_pos h1, ho (q - m) (by omega) (by omega)]
    · rw [if_neg h1, if_neg h1]
theorem pm_isO (h : jh) (m : Nat) (s : ms) : isO (pm h m s) m 11 = true := by
  unfold isO
  rw [pm_0]
  rfl
theorem pm_cV {γ β : Type} (h : jh) (m : Nat) (s : ms) (o : Option (γ × jh)) (K : γ → jh → Option β) : cV (pm h m s) m 11 o K = bd o K := by
  unfold cV
  rw [if_pos (pm_isO h m s)]
theorem pm_jg (h : jh) (m : Nat) (s : ms) (k : Nat) : jg (pm h m s) m 11 k = (mo m s)[k]? := by
  unfold jg
  rw [pm_0]
  exact if_pos rfl
theorem pm_jp (h : jh) (m : Nat) (s : ms) (k : Nat) (v : Value) (hk : k < 36) : jp (pm h m s) m 11 k v = some (jv_wr (pm h m s) m (jO 11 ((mo m s).set k v))) := by
  unfold jp
  rw [pm_0]
  exact if_pos ⟨rfl, hk⟩
theorem pm_gR0 {β : Type} (h : jh) (m : Nat) (s : ms) (K : Nat → Option β) : gR (pm h m s) m 11 0 K = K (m + 1) := by unfold gR; rw [pm_jg]; rfl
theorem pm_gI1 {β : Type} (h : jh) (m : Nat) (s : ms) (K : Int32 → Option β) : gI (pm h m s) m 11 1 K = K (s 1 0) := by unfold gI; rw [pm_jg]; rfl
theorem pm_pV1 {β : Type} (h : jh) (m : Nat) (s : ms) (v : Int32) (K : jh → Option β) : pV (pm h m s) m 11 1 (.int v) K = K (pm h m (st2 s 1 0 v)) := by
  unfold pV
  rw [pm_jp h m s 1 _ (by decide)]
  have e := pm_wr h m s (st2 s 1 0 v) 0 (jO 11 ((mo m s).set 1 (.int v))) (by decide) (by simp [mc, mo, st2]) (fun e he hne => by
    have : e = 1 ∨ e = 2 ∨ e = 3 ∨ e = 4 ∨ e = 5 ∨ e = 6 ∨ e = 7 ∨ e = 8 ∨ e = 9 ∨ e = 10 ∨ e = 11 ∨ e = 12 ∨ e = 13 ∨ e = 14 ∨ e = 15 ∨ e = 16 ∨ e = 17 ∨ e = 18 := by omega
    rcases this with rfl | rfl | rfl | rfl | rfl | rfl | rfl | rfl | rfl | rfl | rfl | rfl | rfl | rfl | rfl | rfl | rfl | rfl <;> first | rfl | (simp only [mc]; rw [st2_row (by decide)]; done))
  rw [Nat.add_zero] at e
  rw [e]
theorem pm_gR2 {β : Type} (h : jh) (m : Nat) (s : ms) (K : Nat → Option β) : gR (pm h m s) m 11 2 K = K (m + 2) := by unfold gR; rw [pm_jg]; rfl
theorem pm_aI2 {β : Type} (h : jh) (m : Nat) (s : ms) (i : Int32) (K : Int32 → Option β) : aI (pm h m s) (m + 2) i K = if i < 0 ∨ 595 ≤ i.toNatClampNeg then none else K (s 2 i.toNatClampNeg) := by
  unfold aI jai
  rw [pm_at h m s 2 (by decide)]
  by_cases h1 : i < 0 ∨ 595 ≤ i.toNatClampNeg
  · simp only [mc, if_pos h1]
  · simp only [mc, if_neg h1]
theorem pm_lnI2 {β : Type} (h : jh) (m : Nat) (s : ms) (K : Int32 → Option β) : lnI (pm h m s) (m + 2) K = K 595 := by
  unfold lnI
  rw [pm_at h m s 2 (by decide)]
  rfl
theorem pm_sI2 {β : Type} (h : jh) (m : Nat) (s : ms) (i v : Int32) (K : jh → Option β) : sI (pm h m s) (m + 2) i v K = if i < 0 ∨ 595 ≤ i.toNatClampNeg then none else K (pm h m (st2 s 2 i.toNatClampNeg v)) := by
  unfold sI jsi
  rw [pm_at h m s 2 (by decide)]
  by_cases h1 : i < 0 ∨ 595 ≤ i.toNatClampNeg
  · simp only [mc, if_pos h1]
  · simp only [mc, if_neg h1]
    rw [pm_wr h m s (st2 s 2 i.toNatClampNeg v) 2 _ (by decide)]
    · show jI 595 (st2 s 2 i.toNatClampNeg v 2) = _
      rw [st2_up]
    · intro e he hne
      have : e = 0 ∨ e = 1 ∨ e = 2 ∨ e = 3 ∨ e = 4 ∨ e = 5 ∨ e = 6 ∨ e = 7 ∨ e = 8 ∨ e = 9 ∨ e = 10 ∨ e = 11 ∨ e = 12 ∨ e = 13 ∨ e = 14 ∨ e = 15 ∨ e = 16 ∨ e = 17 ∨ e = 18 := by omega
      rcases this with rfl | rfl | rfl | rfl | rfl | rfl | rfl | rfl | rfl | rfl | rfl | rfl | rfl | rfl | rfl | rfl | rfl | rfl | rfl <;> first | exact absurd rfl hne | rfl | (simp only [mc]; rw [st2_row (by decide)]; done) | (simp [mc, mo, st2]; done)
theorem pm_gR3 {β : Type} (h : jh) (m : Nat) (s : ms) (K : Nat → Option β) : gR (pm h m s) m 11 3 K = K (m + 3) := by unfold gR; rw [pm_jg]; rfl
theorem pm_aI3 {β : Type} (h : jh) (m : Nat) (s : ms) (i : Int32) (K : Int32 → Option β) : aI (pm h m s) (m + 3) i K = if i < 0 ∨ 3 ≤ i.toNatClampNeg then none else K (s 3 i.toNatClampNeg) := by
  unfold aI jai
  rw [pm_at h m s 3 (by decide)]
  by_cases h1 : i < 0 ∨ 3 ≤ i.toNatClampNeg
  · simp only [mc, if_pos h1]
  · simp only [mc, if_neg h1]
theorem pm_lnI3 {β : Type} (h : jh) (m : Nat) (s : ms) (K : Int32 → Option β) : lnI (pm h m s) (m + 3) K = K 3 := by
  unfold lnI
  rw [pm_at h m s 3 (by decide)]
  rfl
theorem pm_sI3 {β : Type} (h : jh) (m : Nat) (s : ms) (i v : Int32) (K : jh → Option β) : sI (pm h m s) (m + 3) i v K = if i < 0 ∨ 3 ≤ i.toNatClampNeg then none else K (pm h m (st2 s 3 i.toNatClampNeg v)) := by
  unfold sI jsi
  rw [pm_at h m s 3 (by decide)]
  by_cases h1 : i < 0 ∨ 3 ≤ i.toNatClampNeg
  · simp only [mc, if_pos h1]
  · simp only [mc, if_neg h1]
    rw [pm_wr h m s (st2 s 3 i.toNatClampNeg v) 3 _ (by decide)]
    · show jI 3 (st2 s 3 i.toNatClampNeg v 3) = _
      rw [st2_up]
    · intro e he hne
      have : e = 0 ∨ e = 1 ∨ e = 2 ∨ e = 3 ∨ e = 4 ∨ e = 5 ∨ e = 6 ∨ e = 7 ∨ e = 8 ∨ e = 9 ∨ e = 10 ∨ e = 11 ∨ e = 12 ∨ e = 13 ∨ e = 14 ∨ e = 15 ∨ e = 16 ∨ e = 17 ∨ e = 18 := by omega
      rcases this with rfl | rfl | rfl | rfl | rfl | rfl | rfl | rfl | rfl | rfl | rfl | rfl | rfl | rfl | rfl | rfl | rfl | rfl | rfl <;> first | exact absurd rfl hne | rfl | (simp only [mc]; rw [st2_row (by decide)]; done) | (simp [mc, mo, st2]; done)
theorem pm_gR4 {β : Type} (h : jh) (m : Nat) (s : ms) (K : Nat → Option β) : gR (pm h m s) m 11 4 K = K (m + 4) := by unfold gR; rw [pm_jg]; rfl
theorem pm_aI4 {β : Type} (h : jh) (m : Nat) (s : ms) (i : Int32) (K : Int32 → Option β) : aI (pm h m s) (m + 4) i K = if i < 0 ∨ 900 ≤ i.toNatClampNeg then none else K (s 4 i.toNatClampNeg) := by
  unfold aI jai
  rw [pm_at h m s 4 (by decide)]
  by_cases h1 : i < 0 ∨ 900 ≤ i.toNatClampNeg
  · simp only [mc, if_pos h1]
  · simp only [mc, if_neg h1]
theorem pm_lnI4 {β : Type} (h : jh) (m : Nat) (s : ms) (K : Int32 → Option β) : lnI (pm h m s) (m + 4) K = K 900 := by
  unfold lnI
  rw [pm_at h m s 4 (by decide)]
  rfl
theorem pm_sI4 {β : Type} (h : jh) (m : Nat) (s : ms) (i v : Int32) (K : jh → Option β) : sI (pm h m s) (m + 4) i v K = if i < 0 ∨ 900 ≤ i.toNatClampNeg then none else K (pm h m (st2 s 4 i.toNatClampNeg v)) := by
  unfold sI jsi
  rw [pm_at h m s 4 (by decide)]
  by_cases h1 : i < 0 ∨ 900 ≤ i.toNatClampNeg
  · simp only [mc, if_pos h1]
  · simp only [mc, if_neg h1]
    rw [pm_wr h m s (st2 s 4 i.toNatClampNeg v) 4 _ (by decide)]
    · show jI 900 (st2 s 4 i.toNatClampNeg v 4) = _
      rw [st2_up]
    · intro e he hne
      have : e = 0 ∨ e = 1 ∨ e = 2 ∨ e = 3 ∨ e = 4 ∨ e = 5 ∨ e = 6 ∨ e = 7 ∨ e = 8 ∨ e = 9 ∨ e = 10 ∨ e = 11 ∨ e = 12 ∨ e = 13 ∨ e = 14 ∨ e = 15 ∨ e = 16 ∨ e = 17 ∨ e = 18 := by omega
      rcases this with rfl | rfl | rfl | rfl | rfl | rfl | rfl | rfl | rfl | rfl | rfl | rfl | rfl | rfl | rfl | rfl | rfl | rfl | rfl <;> first | exact absurd rfl hne | rfl | (simp only [mc]; rw [st2_row (by decide)]; done) | (simp [mc, mo, st2]; done)
theorem pm_gI5 {β : Type} (h : jh) (m : Nat) (s : ms) (K : Int32 → Option β) : gI (pm h m s) m 11 5 K = K (s 5 0) := by unfold gI; rw [pm_jg]; rfl
theorem pm_pV5 {β : Type} (h : jh) (m : Nat) (s : ms) (v : Int32) (K : jh → Option β) : pV (pm h m s) m 11 5 (.int v) K = K (pm h m (st2 s 5 0 v)) := by
  unfold pV
  rw [pm_jp h m s 5 _ (by decide)]
  have e := pm_wr h m s (st2 s 5 0 v) 0 (jO 11 ((mo m s).set 5 (.int v))) (by decide) (by simp [mc, mo, st2]) (fun e he hne => by
    have : e = 1 ∨ e = 2 ∨ e = 3 ∨ e = 4 ∨ e = 5 ∨ e = 6 ∨ e = 7 ∨ e = 8 ∨ e = 9 ∨ e = 10 ∨ e = 11 ∨ e = 12 ∨ e = 13 ∨ e = 14 ∨ e = 15 ∨ e = 16 ∨ e = 17 ∨ e = 18 := by omega
    rcases this with rfl | rfl | rfl | rfl | rfl | rfl | rfl | rfl | rfl | rfl | rfl | rfl | rfl | rfl | rfl | rfl | rfl | rfl <;> first | rfl | (simp only [mc]; rw [st2_row (by decide)]; done))
  rw [Nat.add_zero] at e
  rw [e]
theorem pm_gI6 {β : Type} (h : jh) (m : Nat) (s : ms) (K : Int32 → Option β) : gI (pm h m s) m 11 6 K = K (s 6 0) := by unfold gI; rw [pm_jg]; rfl
theorem pm_pV6 {β : Type} (h : jh) (m : Nat) (s : ms) (v : Int32) (K : jh → Option β) : pV (pm h m s) m 11 6 (.int v) K = K (pm h m (st2 s 6 0 v)) := by
  unfold pV
  rw [pm_jp h m s 6 _ (by decide)]
  have e := pm_wr h m s (st2 s 6 0 v) 0 (jO 11 ((mo m s).set 6 (.int v))) (by decide) (by simp [mc, mo, st2]) (fun e he hne => by
    have : e = 1 ∨ e = 2 ∨ e = 3 ∨ e = 4 ∨ e = 5 ∨ e = 6 ∨ e = 7 ∨ e = 8 ∨ e = 9 ∨ e = 10 ∨ e = 11 ∨ e = 12 ∨ e = 13 ∨ e = 14 ∨ e = 15 ∨ e = 16 ∨ e = 17 ∨ e = 18 := by omega
    rcases this with rfl | rfl | rfl | rfl | rfl | rfl | rfl | rfl | rfl | rfl | rfl | rfl | rfl | rfl | rfl | rfl | rfl | rfl <;> first | rfl | (simp only [mc]; rw [st2_row (by decide)]; done))
  rw [Nat.add_zero] at e
  rw [e]
theorem pm_gI7 {β : Type} (h : jh) (m : Nat) (s : ms) (K : Int32 → Option β) : gI (pm h m s) m 11 7 K = K (s 7 0) := by unfold gI; rw [pm_jg]; rfl
theorem pm_pV7 {β : Type} (h : jh) (m : Nat) (s : ms) (v : Int32) (K : jh → Option β) : pV (pm h m s) m 11 7 (.int v) K = K (pm h m (st2 s 7 0 v)) := by
  unfold pV
  rw [pm_jp h m s 7 _ (by decide)]
  have e := pm_wr h m s (st2 s 7 0 v) 0 (jO 11 ((mo m s).set 7 (.int v))) (by decide) (by simp [mc, mo, st2]) (fun e he hne => by
    have : e = 1 ∨ e = 2 ∨ e = 3 ∨ e = 4 ∨ e = 5 ∨ e = 6 ∨ e = 7 ∨ e = 8 ∨ e = 9 ∨ e = 10 ∨ e = 11 ∨ e = 12 ∨ e = 13 ∨ e = 14 ∨ e = 15 ∨ e = 16 ∨ e = 17 ∨ e = 18 := by omega
    rcases this with rfl | rfl | rfl | rfl | rfl | rfl | rfl | rfl | rfl | rfl | rfl | rfl | rfl | rfl | rfl | rfl | rfl | rfl <;> first | rfl | (simp only [mc]; rw [st2_row (by decide)]; done))
  rw [Nat.add_zero] at e
  rw [e]
theorem pm_gI8 {β : Type} (h : jh) (m : Nat) (s : ms) (K : Int32 → Option β) : gI (pm h m s) m 11 8 K = K (s 8 0) := by unfold gI; rw [pm_jg]; rfl
theorem pm_pV8 {β : Type} (h : jh) (m : Nat) (s : ms) (v : Int32) (K : jh → Option β) : pV (pm h m s) m 11 8 (.int v) K = K (pm h m (st2 s 8 0 v)) := by
  unfold pV
  rw [pm_jp h m s 8 _ (by decide)]
  have e := pm_wr h m s (st2 s 8 0 v) 0 (jO 11 ((mo m s).set 8 (.int v))) (by decide) (by simp [mc, mo, st2]) (fun e he hne => by
    have : e = 1 ∨ e = 2 ∨ e = 3 ∨ e = 4 ∨ e = 5 ∨ e = 6 ∨ e = 7 ∨ e = 8 ∨ e = 9 ∨ e = 10 ∨ e = 11 ∨ e = 12 ∨ e = 13 ∨ e = 14 ∨ e = 15 ∨ e = 16 ∨ e = 17 ∨ e = 18 := by omega
    rcases this with rfl | rfl | rfl | rfl | rfl | rfl | rfl | rfl | rfl | rfl | rfl | rfl | rfl | rfl | rfl | rfl | rfl | rfl <;> first | rfl | (simp only [mc]; rw [st2_row (by decide)]; done))
  rw [Nat.add_zero] at e
  rw [e]
theorem pm_gI9 {β : Type} (h : jh) (m : Nat) (s : ms) (K : Int32 → Option β) : gI (pm h m s) m 11 9 K = K (s 9 0) := by unfold gI; rw [pm_jg]; rfl
theorem pm_pV9 {β : Type} (h : jh) (m : Nat) (s : ms) (v : Int32) (K : jh → Option β) : pV (pm h m s) m 11 9 (.int v) K = K (pm h m (st2 s 9 0 v)) := by
  unfold pV
  rw [pm_jp h m s 9 _ (by decide)]
  have e := pm_wr h m s (st2 s 9 0 v) 0 (jO 11 ((mo m s).set 9 (.int v))) (by decide) (by simp [mc, mo, st2]) (fun e he hne => by
    have : e = 1 ∨ e = 2 ∨ e = 3 ∨ e = 4 ∨ e = 5 ∨ e = 6 ∨ e = 7 ∨ e = 8 ∨ e = 9 ∨ e = 10 ∨ e = 11 ∨ e = 12 ∨ e = 13 ∨ e = 14 ∨ e = 15 ∨ e = 16 ∨ e = 17 ∨ e = 18 := by omega
    rcases this with rfl | rfl | rfl | rfl | rfl | rfl | rfl | rfl | rfl | rfl | rfl | rfl | rfl | rfl | rfl | rfl | rfl | rfl <;> first | rfl | (simp only [mc]; rw [st2_row (by decide)]; done))
  rw [Nat.add_zero] at e
  rw [e]
theorem pm_gI10 {β : Type} (h : jh) (m : Nat) (s : ms) (K : Int32 → Option β) : gI (pm h m s) m 11 10 K = K (s 10 0) := by unfold gI; rw [pm_jg]; rfl
theorem pm_pV10 {β : Type} (h : jh) (m : Nat) (s : ms) (v : Int32) (K : jh → Option β) : pV (pm h m s) m 11 10 (.int v) K = K (pm h m (st2 s 10 0 v)) := by
  unfold pV
  rw [pm_jp h m s 10 _ (by decide)]
  have e := pm_wr h m s (st2 s 10 0 v) 0 (jO 11 ((mo m s).set 10 (.int v))) (by decide) (by simp [mc, mo, st2]) (fun e he hne => by
    have : e = 1 ∨ e = 2 ∨ e = 3 ∨ e = 4 ∨ e = 5 ∨ e = 6 ∨ e = 7 ∨ e = 8 ∨ e = 9 ∨ e = 10 ∨ e = 11 ∨ e = 12 ∨ e = 13 ∨ e = 14 ∨ e = 15 ∨ e = 16 ∨ e = 17 ∨ e = 18 := by omega
    rcases this with rfl | rfl | rfl | rfl | rfl | rfl | rfl | rfl | rfl | rfl | rfl | rfl | rfl | rfl | rfl | rfl | rfl | rfl <;> first | rfl | (simp only [mc]; rw [st2_row (by decide)]; done))
  rw [Nat.add_zero] at e
  rw [e]
theorem pm_gI11 {β : Type} (h : jh) (m : Nat) (s : ms) (K : Int32 → Option β) : gI (pm h m s) m 11 11 K = K (s 11 0) := by unfold gI; rw [pm_jg]; rfl
theorem pm_pV11 {β : Type} (h : jh) (m : Nat) (s : ms) (v : Int32) (K : jh → Option β) : pV (pm h m s) m 11 11 (.int v) K = K (pm h m (st2 s 11 0 v)) := by
  unfold pV
  rw [pm_jp h m s 11 _ (by decide)]
  have e := pm_wr h m s (st2 s 11 0 v) 0 (jO 11 ((mo m s).set 11 (.int v))) (by decide) (by simp [mc, mo, st2]) (fun e he hne => by
    have : e = 1 ∨ e = 2 ∨ e = 3 ∨ e = 4 ∨ e = 5 ∨ e = 6 ∨ e = 7 ∨ e = 8 ∨ e = 9 ∨ e = 10 ∨ e = 11 ∨ e = 12 ∨ e = 13 ∨ e = 14 ∨ e = 15 ∨ e = 16 ∨ e = 17 ∨ e = 18 := by omega
    rcases this with rfl | rfl | rfl | rfl | rfl | rfl | rfl | rfl | rfl | rfl | rfl | rfl | rfl | rfl | rfl | rfl | rfl | rfl <;> first | rfl | (simp only [mc]; rw [st2_row (by decide)]; done))
  rw [Nat.add_zero] at e
  rw [e]
theorem pm_gI12 {β : Type} (h : jh) (m : Nat) (s : ms) (K : Int32 → Option β) : gI (pm h m s) m 11 12 K = K (s 12 0) := by unfold gI; rw [pm_jg]; rfl
theorem pm_pV12 {β : Type} (h : jh) (m : Nat) (s : ms) (v : Int32) (K : jh → Option β) : pV (pm h m s) m 11 12 (.int v) K = K (pm h m (st2 s 12 0 v)) := by
  unfold pV
  rw [pm_jp h m s 12 _ (by decide)]
  have e := pm_wr h m s (st2 s 12 0 v) 0 (jO 11 ((mo m s).set 12 (.int v))) (by decide) (by simp [mc, mo, st2]) (fun e he hne => by
    have : e = 1 ∨ e = 2 ∨ e = 3 ∨ e = 4 ∨ e = 5 ∨ e = 6 ∨ e = 7 ∨ e = 8 ∨ e = 9 ∨ e = 10 ∨ e = 11 ∨ e = 12 ∨ e = 13 ∨ e = 14 ∨ e = 15 ∨ e = 16 ∨ e = 17 ∨ e = 18 := by omega
    rcases this with rfl | rfl | rfl | rfl | rfl | rfl | rfl | rfl | rfl | rfl | rfl | rfl | rfl | rfl | rfl | rfl | rfl | rfl <;> first | rfl | (simp only [mc]; rw [st2_row (by decide)]; done))
  rw [Nat.add_zero] at e
  rw [e]
theorem pm_gI13 {β : Type} (h : jh) (m : Nat) (s : ms) (K : Int32 → Option β) : gI (pm h m s) m 11 13 K = K (s 13 0) := by unfold gI; rw [pm_jg]; rfl
theorem pm_pV13 {β : Type} (h : jh) (m : Nat) (s : ms) (v : Int32) (K : jh → Option β) : pV (pm h m s) m 11 13 (.int v) K = K (pm h m (st2 s 13 0 v)) := by
  unfold pV
  rw [pm_jp h m s 13 _ (by decide)]
  have e := pm_wr h m s (st2 s 13 0 v) 0 (jO 11 ((mo m s).set 13 (.int v))) (by decide) (by simp [mc, mo, st2]) (fun e he hne => by
    have : e = 1 ∨ e = 2 ∨ e = 3 ∨ e = 4 ∨ e = 5 ∨ e = 6 ∨ e = 7 ∨ e = 8 ∨ e = 9 ∨ e = 10 ∨ e = 11 ∨ e = 12 ∨ e = 13 ∨ e = 14 ∨ e = 15 ∨ e = 16 ∨ e = 17 ∨ e = 18 := by omega
    rcases this with rfl | rfl | rfl | rfl | rfl | rfl | rfl | rfl | rfl | rfl | rfl | rfl | rfl | rfl | rfl | rfl | rfl | rfl <;> first | rfl | (simp only [mc]; rw [st2_row (by decide)]; done))
  rw [Nat.add_zero] at e
  rw [e]
theorem pm_gI14 {β : Type} (h : jh) (m : Nat) (s : ms) (K : Int32 → Option β) : gI (pm h m s) m 11 14 K = K (s 14 0) := by unfold gI; rw [pm_jg]; rfl
theorem pm_pV14 {β : Type} (h : jh) (m : Nat) (s : ms) (v : Int32) (K : jh → Option β) : pV (pm h m s) m 11 14 (.int v) K = K (pm h m (st2 s 14 0 v)) := by
  unfold pV
  rw [pm_jp h m s 14 _ (by decide)]
  have e := pm_wr h m s (st2 s 14 0 v) 0 (jO 11 ((mo m s).set 14 (.int v))) (by decide) (by simp [mc, mo, st2]) (fun e he hne => by
    have : e = 1 ∨ e = 2 ∨ e = 3 ∨ e = 4 ∨ e = 5 ∨ e = 6 ∨ e = 7 ∨ e = 8 ∨ e = 9 ∨ e = 10 ∨ e = 11 ∨ e = 12 ∨ e = 13 ∨ e = 14 ∨ e = 15 ∨ e = 16 ∨ e = 17 ∨ e = 18 := by omega
    rcases this with rfl | rfl | rfl | rfl | rfl | rfl | rfl | rfl | rfl | rfl | rfl | rfl | rfl | rfl | rfl | rfl | rfl | rfl <;> first | rfl | (simp only [mc]; rw [st2_row (by decide)]; done))
  rw [Nat.add_zero] at e
  rw [e]
theorem pm_gR15 {β : Type} (h : jh) (m : Nat) (s : ms) (K : Nat → Option β) : gR (pm h m s) m 11 15 K = K (m + 5) := by unfold gR; rw [pm_jg]; rfl
theorem pm_aI15 {β : Type} (h : jh) (m : Nat) (s : ms) (i : Int32) (K : Int32 → Option β) : aI (pm h m s) (m + 5) i K = if i < 0 ∨ 360 ≤ i.toNatClampNeg then none else K (s 15 i.toNatClampNeg) := by
  unfold aI jai
  rw [pm_at h m s 5 (by decide)]
  by_cases h1 : i < 0 ∨ 360 ≤ i.toNatClampNeg
  · simp only [mc, if_pos h1]
  · simp only [mc, if_neg h1]
theorem pm_lnI15 {β : Type} (h : jh) (m : Nat) (s : ms) (K : Int32 → Option β) : lnI (pm h m s) (m + 5) K = K 360 := by
  unfold lnI
  rw [pm_at h m s 5 (by decide)]
  rfl
theorem pm_sI15 {β : Type} (h : jh) (m : Nat) (s : ms) (i v : Int32) (K : jh → Option β) : sI (pm h m s) (m + 5) i v K = if i < 0 ∨ 360 ≤ i.toNatClampNeg then none else K (pm h m (st2 s 15 i.toNatClampNeg v)) := by
  unfold sI jsi
  rw [pm_at h m s 5 (by decide)]
  by_cases h1 : i < 0 ∨ 360 ≤ i.toNatClampNeg
  · simp only [mc, if_pos h1]
  · simp only [mc, if_neg h1]
    rw [pm_wr h m s (st2 s 15 i.toNatClampNeg v) 5 _ (by decide)]
    · show jI 360 (st2 s 15 i.toNatClampNeg v 15) = _
      rw [st2_up]
    · intro e he hne
      have : e = 0 ∨ e = 1 ∨ e = 2 ∨ e = 3 ∨ e = 4 ∨ e = 5 ∨ e = 6 ∨ e = 7 ∨ e = 8 ∨ e = 9 ∨ e = 10 ∨ e = 11 ∨ e = 12 ∨ e = 13 ∨ e = 14 ∨ e = 15 ∨ e = 16 ∨ e = 17 ∨ e = 18 := by omega
      rcases this with rfl | rfl | rfl | rfl | rfl | rfl | rfl | rfl | rfl | rfl | rfl | rfl | rfl | rfl | rfl | rfl | rfl | rfl | rfl <;> first | exact absurd rfl hne | rfl | (simp only [mc]; rw [st2_row (by decide)]; done) | (simp [mc, mo, st2]; done)
theorem pm_gI16 {β : Type} (h : jh) (m : Nat) (s : ms) (K : Int32 → Option β) : gI (pm h m s) m 11 16 K = K (s 16 0) := by unfold gI; rw [pm_jg]; rfl
theorem pm_pV16 {β : Type} (h : jh) (m : Nat) (s : ms) (v : Int32) (K : jh → Option β) : pV (pm h m s) m 11 16 (.int v) K = K (pm h m (st2 s 16 0 v)) := by
  unfold pV
  rw [pm_jp h m s 16 _ (by decide)]
  have e := pm_wr h m s (st2 s 16 0 v) 0 (jO 11 ((mo m s).set 16 (.int v))) (by decide) (by simp [mc, mo, st2]) (fun e he hne => by
    have : e = 1 ∨ e = 2 ∨ e = 3 ∨ e = 4 ∨ e = 5 ∨ e = 6 ∨ e = 7 ∨ e = 8 ∨ e = 9 ∨ e = 10 ∨ e = 11 ∨ e = 12 ∨ e = 13 ∨ e = 14 ∨ e = 15 ∨ e = 16 ∨ e = 17 ∨ e = 18 := by omega
    rcases this with rfl | rfl | rfl | rfl | rfl | rfl | rfl | rfl | rfl | rfl | rfl | rfl | rfl | rfl | rfl | rfl | rfl | rfl <;> first | rfl | (simp only [mc]; rw [st2_row (by decide)]; done))
  rw [Nat.add_zero] at e
  rw [e]
theorem pm_gR17 {β : Type} (h : jh) (m : Nat) (s : ms) (K : Nat → Option β) : gR (pm h m s) m 11 17 K = K (m + 6) := by unfold gR; rw [pm_jg]; rfl
theorem pm_aI17 {β : Type} (h : jh) (m : Nat) (s : ms) (i : Int32) (K : Int32 → Option β) : aI (pm h m s) (m + 6) i K = if i < 0 ∨ 5 ≤ i.toNatClampNeg then none else K (s 17 i.toNatClampNeg) := by
  unfold aI jai
  rw [pm_at h m s 6 (by decide)]
  by_cases h1 : i < 0 ∨ 5 ≤ i.toNatClampNeg
  · simp only [mc, if_pos h1]
  · simp only [mc, if_neg h1]
theorem pm_lnI17 {β : Type} (h : jh) (m : Nat) (s : ms) (K : Int32 → Option β) : lnI (pm h m s) (m + 6) K = K 5 := by
  unfold lnI
  rw [pm_at h m s 6 (by decide)]
  rfl
theorem pm_sI17 {β : Type} (h : jh) (m : Nat) (s : ms) (i v : Int32) (K : jh → Option β) : sI (pm h m s) (m + 6) i v K = if i < 0 ∨ 5 ≤ i.toNatClampNeg then none else K (pm h m (st2 s 17 i.toNatClampNeg v)) := by
  unfold sI jsi
  rw [pm_at h m s 6 (by decide)]
  by_cases h1 : i < 0 ∨ 5 ≤ i.toNatClampNeg
  · simp only [mc, if_pos h1]
  · simp only [mc, if_neg h1]
    rw [pm_wr h m s (st2 s 17 i.toNatClampNeg v) 6 _ (by decide)]
    · show jI 5 (st2 s 17 i.toNatClampNeg v 17) = _
      rw [st2_up]
    · intro e he hne
      have : e = 0 ∨ e = 1 ∨ e = 2 ∨ e = 3 ∨ e = 4 ∨ e = 5 ∨ e = 6 ∨ e = 7 ∨ e = 8 ∨ e = 9 ∨ e = 10 ∨ e = 11 ∨ e = 12 ∨ e = 13 ∨ e = 14 ∨ e = 15 ∨ e = 16 ∨ e = 17 ∨ e = 18 := by omega
      rcases this with rfl | rfl | rfl | rfl | rfl | rfl | rfl | rfl | rfl | rfl | rfl | rfl | rfl | rfl | rfl | rfl | rfl | rfl | rfl <;> first | exact absurd rfl hne | rfl | (simp only [mc]; rw [st2_row (by decide)]; done) | (simp [mc, mo, st2]; done)
theorem pm_gI18 {β : Type} (h : jh) (m : Nat) (s : ms) (K : Int32 → Option β) : gI (pm h m s) m 11 18 K = K (s 18 0) := by unfold gI; rw [pm_jg]; rfl
theorem pm_pV18 {β : Type} (h : jh) (m : Nat) (s : ms) (v : Int32) (K : jh → Option β) : pV (pm h m s) m 11 18 (.int v) K = K (pm h m (st2 s 18 0 v)) := by
  unfold pV
  rw [pm_jp h m s 18 _ (by decide)]
  have e := pm_wr h m s (st2 s 18 0 v) 0 (jO 11 ((mo m s).set 18 (.int v))) (by decide) (by simp [mc, mo, st2]) (fun e he hne => by
    have : e = 1 ∨ e = 2 ∨ e = 3 ∨ e = 4 ∨ e = 5 ∨ e = 6 ∨ e = 7 ∨ e = 8 ∨ e = 9 ∨ e = 10 ∨ e = 11 ∨ e = 12 ∨ e = 13 ∨ e = 14 ∨ e = 15 ∨ e = 16 ∨ e = 17 ∨ e = 18 := by omega
    rcases this with rfl | rfl | rfl | rfl | rfl | rfl | rfl | rfl | rfl | rfl | rfl | rfl | rfl | rfl | rfl | rfl | rfl | rfl <;> first | rfl | (simp only [mc]; rw [st2_row (by decide)]; done))
  rw [Nat.add_zero] at e
  rw [e]
theorem pm_gR19 {β : Type} (h : jh) (m : Nat) (s : ms) (K : Nat → Option β) : gR (pm h m s) m 11 19 K = K (m + 7) := by unfold gR; rw [pm_jg]; rfl
theorem pm_aI19 {β : Type} (h : jh) (m : Nat) (s : ms) (i : Int32) (K : Int32 → Option β) : aI (pm h m s) (m + 7) i K = if i < 0 ∨ 23800 ≤ i.toNatClampNeg then none else K (s 19 i.toNatClampNeg) := by
  unfold aI jai
  rw [pm_at h m s 7 (by decide)]
  by_cases h1 : i < 0 ∨ 23800 ≤ i.toNatClampNeg
  · simp only [mc, if_pos h1]
  · simp only [mc, if_neg h1]
theorem pm_lnI19 {β : Type} (h : jh) (m : Nat) (s : ms) (K : Int32 → Option β) : lnI (pm h m s) (m + 7) K = K 23800 := by
  unfold lnI
  rw [pm_at h m s 7 (by decide)]
  rfl
theorem pm_sI19 {β : Type} (h : jh) (m : Nat) (s : ms) (i v : Int32) (K : jh → Option β) : sI (pm h m s) (m + 7) i v K = if i < 0 ∨ 23800 ≤ i.toNatClampNeg then none else K (pm h m (st2 s 19 i.toNatClampNeg v)) := by
  unfold sI jsi
  rw [pm_at h m s 7 (by decide)]
  by_cases h1 : i < 0 ∨ 23800 ≤ i.toNatClampNeg
  · simp only [mc, if_pos h1]
  · simp only [mc, if_neg h1]
    rw [pm_wr h m s (st2 s 19 i.toNatClampNeg v) 7 _ (by decide)]
    · show jI 23800 (st2 s 19 i.toNatClampNeg v 19) = _
      rw [st2_up]
    · intro e he hne
      have : e = 0 ∨ e = 1 ∨ e = 2 ∨ e = 3 ∨ e = 4 ∨ e = 5 ∨ e = 6 ∨ e = 7 ∨ e = 8 ∨ e = 9 ∨ e = 10 ∨ e = 11 ∨ e = 12 ∨ e = 13 ∨ e = 14 ∨ e = 15 ∨ e = 16 ∨ e = 17 ∨ e = 18 := by omega
      rcases this with rfl | rfl | rfl | rfl | rfl | rfl | rfl | rfl | rfl | rfl | rfl | rfl | rfl | rfl | rfl | rfl | rfl | rfl | rfl <;> first | exact absurd rfl hne | rfl | (simp only [mc]; rw [st2_row (by decide)]; done) | (simp [mc, mo, st2]; done)
theorem pm_gR20 {β : Type} (h : jh) (m : Nat) (s : ms) (K : Nat → Option β) : gR (pm h m s) m 11 20 K = K (m + 8) := by unfold gR; rw [pm_jg]; rfl
theorem pm_aI20 {β : Type} (h : jh) (m : Nat) (s : ms) (i : Int32) (K : Int32 → Option β) : aI (pm h m s) (m + 8) i K = if i < 0 ∨ 595 ≤ i.toNatClampNeg then none else K (s 20 i.toNatClampNeg) := by
  unfold aI jai
  rw [pm_at h m s 8 (by decide)]
  by_cases h1 : i < 0 ∨ 595 ≤ i.toNatClampNeg
  · simp only [mc, if_pos h1]
  · simp only [mc, if_neg h1]
theorem pm_lnI20 {β : Type} (h : jh) (m : Nat) (s : ms) (K : Int32 → Option β) : lnI (pm h m s) (m + 8) K = K 595 := by
  unfold lnI
  rw [pm_at h m s 8 (by decide)]
  rfl
theorem pm_sI20 {β : Type} (h : jh) (m : Nat) (s : ms) (i v : Int32) (K : jh → Option β) : sI (pm h m s) (m + 8) i v K = if i < 0 ∨ 595 ≤ i.toNatClampNeg then none else K (pm h m (st2 s 20 i.toNatClampNeg v)) := by
  unfold sI jsi
  rw [pm_at h m s 8 (by decide)]
  by_cases h1 : i < 0 ∨ 595 ≤ i.toNatClampNeg
  · simp only [mc, if_pos h1]
  · simp only [mc, if_neg h1]
    rw [pm_wr h m s (st2 s 20 i.toNatClampNeg v) 8 _ (by decide)]
    · show jI 595 (st2 s 20 i.toNatClampNeg v 20) = _
      rw [st2_up]
    · intro e he hne
      have : e = 0 ∨ e = 1 ∨ e = 2 ∨ e = 3 ∨ e = 4 ∨ e = 5 ∨ e = 6 ∨ e = 7 ∨ e = 8 ∨ e = 9 ∨ e = 10 ∨ e = 11 ∨ e = 12 ∨ e = 13 ∨ e = 14 ∨ e = 15 ∨ e = 16 ∨ e = 17 ∨ e = 18 := by omega
      rcases this with rfl | rfl | rfl | rfl | rfl | rfl | rfl | rfl | rfl | rfl | rfl | rfl | rfl | rfl | rfl | rfl | rfl | rfl | rfl <;> first | exact absurd rfl hne | rfl | (simp only [mc]; rw [st2_row (by decide)]; done) | (simp [mc, mo, st2]; done)
theorem pm_gR21 {β : Type} (h : jh) (m : Nat) (s : ms) (K : Nat → Option β) : gR (pm h m s) m 11 21 K = K (m + 9) := by unfold gR; rw [pm_jg]; rfl
theorem pm_aI21 {β : Type} (h : jh) (m : Nat) (s : ms) (i : Int32) (K : Int32 → Option β) : aI (pm h m s) (m + 9) i K = if i < 0 ∨ 128 ≤ i.toNatClampNeg then none else K (s 21 i.toNatClampNeg) := by
  unfold aI jai
  rw [pm_at h m s 9 (by decide)]
  by_cases h1 : i < 0 ∨ 128 ≤ i.toNatClampNeg
  · simp only [mc, if_pos h1]
  · simp only [mc, if_neg h1]
theorem pm_lnI21 {β : Type} (h : jh) (m : Nat) (s : ms) (K : Int32 → Option β) : lnI (pm h m s) (m + 9) K = K 128 := by
  unfold lnI
  rw [pm_at h m s 9 (by decide)]
  rfl
theorem pm_sI21 {β : Type} (h : jh) (m : Nat) (s : ms) (i v : Int32) (K : jh → Option β) : sI (pm h m s) (m + 9) i v K = if i < 0 ∨ 128 ≤ i.toNatClampNeg then none else K (pm h m (st2 s 21 i.toNatClampNeg v)) := by
  unfold sI jsi
  rw [pm_at h m s 9 (by decide)]
  by_cases h1 : i < 0 ∨ 128 ≤ i.toNatClampNeg
  · simp only [mc, if_pos h1]
  · simp only [mc, if_neg h1]
    rw [pm_wr h m s (st2 s 21 i.toNatClampNeg v) 9 _ (by decide)]
    · show jI 128 (st2 s 21 i.toNatClampNeg v 21) = _
      rw [st2_up]
    · intro e he hne
      have : e = 0 ∨ e = 1 ∨ e = 2 ∨ e = 3 ∨ e = 4 ∨ e = 5 ∨ e = 6 ∨ e = 7 ∨ e = 8 ∨ e = 9 ∨ e = 10 ∨ e = 11 ∨ e = 12 ∨ e = 13 ∨ e = 14 ∨ e = 15 ∨ e = 16 ∨ e = 17 ∨ e = 18 := by omega
      rcases this with rfl | rfl | rfl | rfl | rfl | rfl | rfl | rfl | rfl | rfl | rfl | rfl | rfl | rfl | rfl | rfl | rfl | rfl | rfl <;> first | exact absurd rfl hne | rfl | (simp only [mc]; rw [st2_row (by decide)]; done) | (simp [mc, mo, st2]; done)
theorem pm_gI22 {β : Type} (h : jh) (m : Nat) (s : ms) (K : Int32 → Option β) : gI (pm h m s) m 11 22 K = K (s 22 0) := by unfold gI; rw [pm_jg]; rfl
theorem pm_pV22 {β : Type} (h : jh) (m : Nat) (s : ms) (v : Int32) (K : jh → Option β) : pV (pm h m s) m 11 22 (.int v) K = K (pm h m (st2 s 22 0 v)) := by
  unfold pV
  rw [pm_jp h m s 22 _ (by decide)]
  have e := pm_wr h m s (st2 s 22 0 v) 0 (jO 11 ((mo m s).set 22 (.int v))) (by decide) (by simp [mc, mo, st2]) (fun e he hne => by
    have : e = 1 ∨ e = 2 ∨ e = 3 ∨ e = 4 ∨ e = 5 ∨ e = 6 ∨ e = 7 ∨ e = 8 ∨ e = 9 ∨ e = 10 ∨ e = 11 ∨ e = 12 ∨ e = 13 ∨ e = 14 ∨ e = 15 ∨ e = 16 ∨ e = 17 ∨ e = 18 := by omega
    rcases this with rfl | rfl | rfl | rfl | rfl | rfl | rfl | rfl | rfl | rfl | rfl | rfl | rfl | rfl | rfl | rfl | rfl | rfl <;> first | rfl | (simp only [mc]; rw [st2_row (by decide)]; done))
  rw [Nat.add_zero] at e
  rw [e]
theorem pm_gR23 {β : Type} (h : jh) (m : Nat) (s : ms) (K : Nat → Option β) : gR (pm h m s) m 11 23 K = K (m + 10) := by unfold gR; rw [pm_jg]; rfl
theorem pm_aI23 {β : Type} (h : jh) (m : Nat) (s : ms) (i : Int32) (K : Int32 → Option β) : aI (pm h m s) (m + 10) i K = if i < 0 ∨ 8 ≤ i.toNatClampNeg then none else K (s 23 i.toNatClampNeg) := by
  unfold aI jai
  rw [pm_at h m s 10 (by decide)]
  by_cases h1 : i < 0 ∨ 8 ≤ i.toNatClampNeg
  · simp only [mc, if_pos h1]
  · simp only [mc, if_neg h1]
theorem pm_lnI23 {β : Type} (h : jh) (m : Nat) (s : ms) (K : Int32 → Option β) : lnI (pm h m s) (m + 10) K = K 8 := by
  unfold lnI
  rw [pm_at h m s 10 (by decide)]
  rfl
theorem pm_sI23 {β : Type} (h : jh) (m : Nat) (s : ms) (i v : Int32) (K : jh → Option β) : sI (pm h m s) (m + 10) i v K = if i < 0 ∨ 8 ≤ i.toNatClampNeg then none else K (pm h m (st2 s 23 i.toNatClampNeg v)) := by
  unfold sI jsi
  rw [pm_at h m s 10 (by decide)]
  by_cases h1 : i < 0 ∨ 8 ≤ i.toNatClampNeg
  · simp only [mc, if_pos h1]
  · simp only [mc, if_neg h1]
    rw [pm_wr h m s (st2 s 23 i.toNatClampNeg v) 10 _ (by decide)]
    · show jI 8 (st2 s 23 i.toNatClampNeg v 23) = _
      rw [st2_up]
    · intro e he hne
      have : e = 0 ∨ e = 1 ∨ e = 2 ∨ e = 3 ∨ e = 4 ∨ e = 5 ∨ e = 6 ∨ e = 7 ∨ e = 8 ∨ e = 9 ∨ e = 10 ∨ e = 11 ∨ e = 12 ∨ e = 13 ∨ e = 14 ∨ e = 15 ∨ e = 16 ∨ e = 17 ∨ e = 18 := by omega
      rcases this with rfl | rfl | rfl | rfl | rfl | rfl | rfl | rfl | rfl | rfl | rfl | rfl | rfl | rfl | rfl | rfl | rfl | rfl | rfl <;> first | exact absurd rfl hne | rfl | (simp only [mc]; rw [st2_row (by decide)]; done) | (simp [mc, mo, st2]; done)
theorem pm_gR24 {β : Type} (h : jh) (m : Nat) (s : ms) (K : Nat → Option β) : gR (pm h m s) m 11 24 K = K (m + 11) := by unfold gR; rw [pm_jg]; rfl
theorem pm_aI24 {β : Type} (h : jh) (m : Nat) (s : ms) (i : Int32) (K : Int32 → Option β) : aI (pm h m s) (m + 11) i K = if i < 0 ∨ 8 ≤ i.toNatClampNeg then none else K (s 24 i.toNatClampNeg) := by
  unfold aI jai
  rw [pm_at h m s 11 (by decide)]
  by_cases h1 : i < 0 ∨ 8 ≤ i.toNatClampNeg
  · simp only [mc, if_pos h1]
  · simp only [mc, if_neg h1]
theorem pm_lnI24 {β : Type} (h : jh) (m : Nat) (s : ms) (K : Int32 → Option β) : lnI (pm h m s) (m + 11) K = K 8 := by
  unfold lnI
  rw [pm_at h m s 11 (by decide)]
  rfl
theorem pm_sI24 {β : Type} (h : jh) (m : Nat) (s : ms) (i v : Int32) (K : jh → Option β) : sI (pm h m s) (m + 11) i v K = if i < 0 ∨ 8 ≤ i.toNatClampNeg then none else K (pm h m (st2 s 24 i.toNatClampNeg v)) := by
  unfold sI jsi
  rw [pm_at h m s 11 (by decide)]
  by_cases h1 : i < 0 ∨ 8 ≤ i.toNatClampNeg
  · simp only [mc, if_pos h1]
  · simp only [mc, if_neg h1]
    rw [pm_wr h m s (st2 s 24 i.toNatClampNeg v) 11 _ (by decide)]
    · show jI 8 (st2 s 24 i.toNatClampNeg v 24) = _
      rw [st2_up]
    · intro e he hne
      have : e = 0 ∨ e = 1 ∨ e = 2 ∨ e = 3 ∨ e = 4 ∨ e = 5 ∨ e = 6 ∨ e = 7 ∨ e = 8 ∨ e = 9 ∨ e = 10 ∨ e = 11 ∨ e = 12 ∨ e = 13 ∨ e = 14 ∨ e = 15 ∨ e = 16 ∨ e = 17 ∨ e = 18 := by omega
      rcases this with rfl | rfl | rfl | rfl | rfl | rfl | rfl | rfl | rfl | rfl | rfl | rfl | rfl | rfl | rfl | rfl | rfl | rfl | rfl <;> first | exact absurd rfl hne | rfl | (simp only [mc]; rw [st2_row (by decide)]; done) | (simp [mc, mo, st2]; done)
theorem pm_gR25 {β : Type} (h : jh) (m : Nat) (s : ms) (K : Nat → Option β) : gR (pm h m s) m 11 25 K = K (m + 12) := by unfold gR; rw [pm_jg]; rfl
theorem pm_aI25 {β : Type} (h : jh) (m : Nat) (s : ms) (i : Int32) (K : Int32 → Option β) : aI (pm h m s) (m + 12) i K = if i < 0 ∨ 8 ≤ i.toNatClampNeg then none else K (s 25 i.toNatClampNeg) := by
  unfold aI jai
  rw [pm_at h m s 12 (by decide)]
  by_cases h1 : i < 0 ∨ 8 ≤ i.toNatClampNeg
  · simp only [mc, if_pos h1]
  · simp only [mc, if_neg h1]
theorem pm_lnI25 {β : Type} (h : jh) (m : Nat) (s : ms) (K : Int32 → Option β) : lnI (pm h m s) (m + 12) K = K 8 := by
  unfold lnI
  rw [pm_at h m s 12 (by decide)]
  rfl
theorem pm_sI25 {β : Type} (h : jh) (m : Nat) (s : ms) (i v : Int32) (K : jh → Option β) : sI (pm h m s) (m + 12) i v K = if i < 0 ∨ 8 ≤ i.toNatClampNeg then none else K (pm h m (st2 s 25 i.toNatClampNeg v)) := by
  unfold sI jsi
  rw [pm_at h m s 12 (by decide)]
  by_cases h1 : i < 0 ∨ 8 ≤ i.toNatClampNeg
  · simp only [mc, if_pos h1]
  · simp only [mc, if_neg h1]
    rw [pm_wr h m s (st2 s 25 i.toNatClampNeg v) 12 _ (by decide)]
    · show jI 8 (st2 s 25 i.toNatClampNeg v 25) = _
      rw [st2_up]
    · intro e he hne
      have : e = 0 ∨ e = 1 ∨ e = 2 ∨ e = 3 ∨ e = 4 ∨ e = 5 ∨ e = 6 ∨ e = 7 ∨ e = 8 ∨ e = 9 ∨ e = 10 ∨ e = 11 ∨ e = 12 ∨ e = 13 ∨ e = 14 ∨ e = 15 ∨ e = 16 ∨ e = 17 ∨ e = 18 := by omega
      rcases this with rfl | rfl | rfl | rfl | rfl | rfl | rfl | rfl | rfl | rfl | rfl | rfl | rfl | rfl | rfl | rfl | rfl | rfl | rfl <;> first | exact absurd rfl hne | rfl | (simp only [mc]; rw [st2_row (by decide)]; done) | (simp [mc, mo, st2]; done)
theorem pm_gI26 {β : Type} (h : jh) (m : Nat) (s : ms) (K : Int32 → Option β) : gI (pm h m s) m 11 26 K = K (s 26 0) := by unfold gI; rw [pm_jg]; rfl
theorem pm_pV26 {β : Type} (h : jh) (m : Nat) (s : ms) (v : Int32) (K : jh → Option β) : pV (pm h m s) m 11 26 (.int v) K = K (pm h m (st2 s 26 0 v)) := by
  unfold pV
  rw [pm_jp h m s 26 _ (by decide)]
  have e := pm_wr h m s (st2 s 26 0 v) 0 (jO 11 ((mo m s).set 26 (.int v))) (by decide) (by simp [mc, mo, st2]) (fun e he hne => by
    have : e = 1 ∨ e = 2 ∨ e = 3 ∨ e = 4 ∨ e = 5 ∨ e = 6 ∨ e = 7 ∨ e = 8 ∨ e = 9 ∨ e = 10 ∨ e = 11 ∨ e = 12 ∨ e = 13 ∨ e = 14 ∨ e = 15 ∨ e = 16 ∨ e = 17 ∨ e = 18 := by omega
    rcases this with rfl | rfl | rfl | rfl | rfl | rfl | rfl | rfl | rfl | rfl | rfl | rfl | rfl | rfl | rfl | rfl | rfl | rfl <;> first | rfl | (simp only [mc]; rw [st2_row (by decide)]; done))
  rw [Nat.add_zero] at e
  rw [e]
theorem pm_gI27 {β : Type} (h : jh) (m : Nat) (s : ms) (K : Int32 → Option β) : gI (pm h m s) m 11 27 K = K (s 27 0) := by unfold gI; rw [pm_jg]; rfl
theorem pm_pV27 {β : Type} (h : jh) (m : Nat) (s : ms) (v : Int32) (K : jh → Option β) : pV (pm h m s) m 11 27 (.int v) K = K (pm h m (st2 s 27 0 v)) := by
  unfold pV
  rw [pm_jp h m s 27 _ (by decide)]
  have e := pm_wr h m s (st2 s 27 0 v) 0 (jO 11 ((mo m s).set 27 (.int v))) (by decide) (by simp [mc, mo, st2]) (fun e he hne => by
    have : e = 1 ∨ e = 2 ∨ e = 3 ∨ e = 4 ∨ e = 5 ∨ e = 6 ∨ e = 7 ∨ e = 8 ∨ e = 9 ∨ e = 10 ∨ e = 11 ∨ e = 12 ∨ e = 13 ∨ e = 14 ∨ e = 15 ∨ e = 16 ∨ e = 17 ∨ e = 18 := by omega
    rcases this with rfl | rfl | rfl | rfl | rfl | rfl | rfl | rfl | rfl | rfl | rfl | rfl | rfl | rfl | rfl | rfl | rfl | rfl <;> first | rfl | (simp only [mc]; rw [st2_row (by decide)]; done))
  rw [Nat.add_zero] at e
  rw [e]
theorem pm_gI28 {β : Type} (h : jh) (m : Nat) (s : ms) (K : Int32 → Option β) : gI (pm h m s) m 11 28 K = K (s 28 0) := by unfold gI; rw [pm_jg]; rfl
theorem pm_pV28 {β : Type} (h : jh) (m : Nat) (s : ms) (v : Int32) (K : jh → Option β) : pV (pm h m s) m 11 28 (.int v) K = K (pm h m (st2 s 28 0 v)) := by
  unfold pV
  rw [pm_jp h m s 28 _ (by decide)]
  have e := pm_wr h m s (st2 s 28 0 v) 0 (jO 11 ((mo m s).set 28 (.int v))) (by decide) (by simp [mc, mo, st2]) (fun e he hne => by
    have : e = 1 ∨ e = 2 ∨ e = 3 ∨ e = 4 ∨ e = 5 ∨ e = 6 ∨ e = 7 ∨ e = 8 ∨ e = 9 ∨ e = 10 ∨ e = 11 ∨ e = 12 ∨ e = 13 ∨ e = 14 ∨ e = 15 ∨ e = 16 ∨ e = 17 ∨ e = 18 := by omega
    rcases this with rfl | rfl | rfl | rfl | rfl | rfl | rfl | rfl | rfl | rfl | rfl | rfl | rfl | rfl | rfl | rfl | rfl | rfl <;> first | rfl | (simp only [mc]; rw [st2_row (by decide)]; done))
  rw [Nat.add_zero] at e
  rw [e]
theorem pm_gI29 {β : Type} (h : jh) (m : Nat) (s : ms) (K : Int32 → Option β) : gI (pm h m s) m 11 29 K = K (s 29 0) := by unfold gI; rw [pm_jg]; rfl
theorem pm_pV29 {β : Type} (h : jh) (m : Nat) (s : ms) (v : Int32) (K : jh → Option β) : pV (pm h m s) m 11 29 (.int v) K = K (pm h m (st2 s 29 0 v)) := by
  unfold pV
  rw [pm_jp h m s 29 _ (by decide)]
  have e := pm_wr h m s (st2 s 29 0 v) 0 (jO 11 ((mo m s).set 29 (.int v))) (by decide) (by simp [mc, mo, st2]) (fun e he hne => by
    have : e = 1 ∨ e = 2 ∨ e = 3 ∨ e = 4 ∨ e = 5 ∨ e = 6 ∨ e = 7 ∨ e = 8 ∨ e = 9 ∨ e = 10 ∨ e = 11 ∨ e = 12 ∨ e = 13 ∨ e = 14 ∨ e = 15 ∨ e = 16 ∨ e = 17 ∨ e = 18 := by omega
    rcases this with rfl | rfl | rfl | rfl | rfl | rfl | rfl | rfl | rfl | rfl | rfl | rfl | rfl | rfl | rfl | rfl | rfl | rfl <;> first | rfl | (simp only [mc]; rw [st2_row (by decide)]; done))
  rw [Nat.add_zero] at e
  rw [e]
theorem pm_gR30 {β : Type} (h : jh) (m : Nat) (s : ms) (K : Nat → Option β) : gR (pm h m s) m 11 30 K = K (m + 13) := by unfold gR; rw [pm_jg]; rfl
theorem pm_aI30 {β : Type} (h : jh) (m : Nat) (s : ms) (i : Int32) (K : Int32 → Option β) : aI (pm h m s) (m + 13) i K = if i < 0 ∨ 595 ≤ i.toNatClampNeg then none else K (s 30 i.toNatClampNeg) := by
  unfold aI jai
  rw [pm_at h m s 13 (by decide)]
  by_cases h1 : i < 0 ∨ 595 ≤ i.toNatClampNeg
  · simp only [mc, if_pos h1]
  · simp only [mc, if_neg h1]
theorem pm_lnI30 {β : Type} (h : jh) (m : Nat) (s : ms) (K : Int32 → Option β) : lnI (pm h m s) (m + 13) K = K 595 := by
  unfold lnI
  rw [pm_at h m s 13 (by decide)]
  rfl
theorem pm_sI30 {β : Type} (h : jh) (m : Nat) (s : ms) (i v : Int32) (K : jh → Option β) : sI (pm h m s) (m + 13) i v K = if i < 0 ∨ 595 ≤ i.toNatClampNeg then none else K (pm h m (st2 s 30 i.toNatClampNeg v)) := by
  unfold sI jsi
  rw [pm_at h m s 13 (by decide)]
  by_cases h1 : i < 0 ∨ 595 ≤ i.toNatClampNeg
  · simp only [mc, if_pos h1]
  · simp only [mc, if_neg h1]
    rw [pm_wr h m s (st2 s 30 i.toNatClampNeg v) 13 _ (by decide)]
    · show jI 595 (st2 s 30 i.toNatClampNeg v 30) = _
      rw [st2_up]
    · intro e he hne
      have : e = 0 ∨ e = 1 ∨ e = 2 ∨ e = 3 ∨ e = 4 ∨ e = 5 ∨ e = 6 ∨ e = 7 ∨ e = 8 ∨ e = 9 ∨ e = 10 ∨ e = 11 ∨ e = 12 ∨ e = 13 ∨ e = 14 ∨ e = 15 ∨ e = 16 ∨ e = 17 ∨ e = 18 := by omega
      rcases this with rfl | rfl | rfl | rfl | rfl | rfl | rfl | rfl | rfl | rfl | rfl | rfl | rfl | rfl | rfl | rfl | rfl | rfl | rfl <;> first | exact absurd rfl hne | rfl | (simp only [mc]; rw [st2_row (by decide)]; done) | (simp [mc, mo, st2]; done)
theorem pm_gR31 {β : Type} (h : jh) (m : Nat) (s : ms) (K : Nat → Option β) : gR (pm h m s) m 11 31 K = K (m + 14) := by unfold gR; rw [pm_jg]; rfl
theorem pm_aI31 {β : Type} (h : jh) (m : Nat) (s : ms) (i : Int32) (K : Int32 → Option β) : aI (pm h m s) (m + 14) i K = if i < 0 ∨ 23800 ≤ i.toNatClampNeg then none else K (s 31 i.toNatClampNeg) := by
  unfold aI jai
  rw [pm_at h m s 14 (by decide)]
  by_cases h1 : i < 0 ∨ 23800 ≤ i.toNatClampNeg
  · simp only [mc, if_pos h1]
  · simp only [mc, if_neg h1]
theorem pm_lnI31 {β : Type} (h : jh) (m : Nat) (s : ms) (K : Int32 → Option β) : lnI (pm h m s) (m + 14) K = K 23800 := by
  unfold lnI
  rw [pm_at h m s 14 (by decide)]
  rfl
theorem pm_sI31 {β : Type} (h : jh) (m : Nat) (s : ms) (i v : Int32) (K : jh → Option β) : sI (pm h m s) (m + 14) i v K = if i < 0 ∨ 23800 ≤ i.toNatClampNeg then none else K (pm h m (st2 s 31 i.toNatClampNeg v)) := by
  unfold sI jsi
  rw [pm_at h m s 14 (by decide)]
  by_cases h1 : i < 0 ∨ 23800 ≤ i.toNatClampNeg
  · simp only [mc, if_pos h1]
  · simp only [mc, if_neg h1]
    rw [pm_wr h m s (st2 s 31 i.toNatClampNeg v) 14 _ (by decide)]
    · show jI 23800 (st2 s 31 i.toNatClampNeg v 31) = _
      rw [st2_up]
    · intro e he hne
      have : e = 0 ∨ e = 1 ∨ e = 2 ∨ e = 3 ∨ e = 4 ∨ e = 5 ∨ e = 6 ∨ e = 7 ∨ e = 8 ∨ e = 9 ∨ e = 10 ∨ e = 11 ∨ e = 12 ∨ e = 13 ∨ e = 14 ∨ e = 15 ∨ e = 16 ∨ e = 17 ∨ e = 18 := by omega
      rcases this with rfl | rfl | rfl | rfl | rfl | rfl | rfl | rfl | rfl | rfl | rfl | rfl | rfl | rfl | rfl | rfl | rfl | rfl | rfl <;> first | exact absurd rfl hne | rfl | (simp only [mc]; rw [st2_row (by decide)]; done) | (simp [mc, mo, st2]; done)
theorem pm_gR32 {β : Type} (h : jh) (m : Nat) (s : ms) (K : Nat → Option β) : gR (pm h m s) m 11 32 K = K (m + 15) := by unfold gR; rw [pm_jg]; rfl
theorem pm_aI32 {β : Type} (h : jh) (m : Nat) (s : ms) (i : Int32) (K : Int32 → Option β) : aI (pm h m s) (m + 15) i K = if i < 0 ∨ 8 ≤ i.toNatClampNeg then none else K (s 32 i.toNatClampNeg) := by
  unfold aI jai
  rw [pm_at h m s 15 (by decide)]
  by_cases h1 : i < 0 ∨ 8 ≤ i.toNatClampNeg
  · simp only [mc, if_pos h1]
  · simp only [mc, if_neg h1]
theorem pm_lnI32 {β : Type} (h : jh) (m : Nat) (s : ms) (K : Int32 → Option β) : lnI (pm h m s) (m + 15) K = K 8 := by
  unfold lnI
  rw [pm_at h m s 15 (by decide)]
  rfl
theorem pm_sI32 {β : Type} (h : jh) (m : Nat) (s : ms) (i v : Int32) (K : jh → Option β) : sI (pm h m s) (m + 15) i v K = if i < 0 ∨ 8 ≤ i.toNatClampNeg then none else K (pm h m (st2 s 32 i.toNatClampNeg v)) := by
  unfold sI jsi
  rw [pm_at h m s 15 (by decide)]
  by_cases h1 : i < 0 ∨ 8 ≤ i.toNatClampNeg
  · simp only [mc, if_pos h1]
  · simp only [mc, if_neg h1]
    rw [pm_wr h m s (st2 s 32 i.toNatClampNeg v) 15 _ (by decide)]
    · show jI 8 (st2 s 32 i.toNatClampNeg v 32) = _
      rw [st2_up]
    · intro e he hne
      have : e = 0 ∨ e = 1 ∨ e = 2 ∨ e = 3 ∨ e = 4 ∨ e = 5 ∨ e = 6 ∨ e = 7 ∨ e = 8 ∨ e = 9 ∨ e = 10 ∨ e = 11 ∨ e = 12 ∨ e = 13 ∨ e = 14 ∨ e = 15 ∨ e = 16 ∨ e = 17 ∨ e = 18 := by omega
      rcases this with rfl | rfl | rfl | rfl | rfl | rfl | rfl | rfl | rfl | rfl | rfl | rfl | rfl | rfl | rfl | rfl | rfl | rfl | rfl <;> first | exact absurd rfl hne | rfl | (simp only [mc]; rw [st2_row (by decide)]; done) | (simp [mc, mo, st2]; done)
theorem pm_gR33 {β : Type} (h : jh) (m : Nat) (s : ms) (K : Nat → Option β) : gR (pm h m s) m 11 33 K = K (m + 16) := by unfold gR; rw [pm_jg]; rfl
theorem pm_aI33 {β : Type} (h : jh) (m : Nat) (s : ms) (i : Int32) (K : Int32 → Option β) : aI (pm h m s) (m + 16) i K = if i < 0 ∨ 8 ≤ i.toNatClampNeg then none else K (s 33 i.toNatClampNeg) := by
  unfold aI jai
  rw [pm_at h m s 16 (by decide)]
  by_cases h1 : i < 0 ∨ 8 ≤ i.toNatClampNeg
  · simp only [mc, if_pos h1]
  · simp only [mc, if_neg h1]
theorem pm_lnI33 {β : Type} (h : jh) (m : Nat) (s : ms) (K : Int32 → Option β) : lnI (pm h m s) (m + 16) K = K 8 := by
  unfold lnI
  rw [pm_at h m s 16 (by decide)]
  rfl
theorem pm_sI33 {β : Type} (h : jh) (m : Nat) (s : ms) (i v : Int32) (K : jh → Option β) : sI (pm h m s) (m + 16) i v K = if i < 0 ∨ 8 ≤ i.toNatClampNeg then none else K (pm h m (st2 s 33 i.toNatClampNeg v)) := by
  unfold sI jsi
  rw [pm_at h m s 16 (by decide)]
  by_cases h1 : i < 0 ∨ 8 ≤ i.toNatClampNeg
  · simp only [mc, if_pos h1]
  · simp only [mc, if_neg h1]
    rw [pm_wr h m s (st2 s 33 i.toNatClampNeg v) 16 _ (by decide)]
    · show jI 8 (st2 s 33 i.toNatClampNeg v 33) = _
      rw [st2_up]
    · intro e he hne
      have : e = 0 ∨ e = 1 ∨ e = 2 ∨ e = 3 ∨ e = 4 ∨ e = 5 ∨ e = 6 ∨ e = 7 ∨ e = 8 ∨ e = 9 ∨ e = 10 ∨ e = 11 ∨ e = 12 ∨ e = 13 ∨ e = 14 ∨ e = 15 ∨ e = 16 ∨ e = 17 ∨ e = 18 := by omega
      rcases this with rfl | rfl | rfl | rfl | rfl | rfl | rfl | rfl | rfl | rfl | rfl | rfl | rfl | rfl | rfl | rfl | rfl | rfl | rfl <;> first | exact absurd rfl hne | rfl | (simp only [mc]; rw [st2_row (by decide)]; done) | (simp [mc, mo, st2]; done)
theorem pm_gR34 {β : Type} (h : jh) (m : Nat) (s : ms) (K : Nat → Option β) : gR (pm h m s) m 11 34 K = K (m + 17) := by unfold gR; rw [pm_jg]; rfl
theorem pm_aI34 {β : Type} (h : jh) (m : Nat) (s : ms) (i : Int32) (K : Int32 → Option β) : aI (pm h m s) (m + 17) i K = if i < 0 ∨ 8 ≤ i.toNatClampNeg then none else K (s 34 i.toNatClampNeg) := by
  unfold aI jai
  rw [pm_at h m s 17 (by decide)]
  by_cases h1 : i < 0 ∨ 8 ≤ i.toNatClampNeg
  · simp only [mc, if_pos h1]
  · simp only [mc, if_neg h1]
theorem pm_lnI34 {β : Type} (h : jh) (m : Nat) (s : ms) (K : Int32 → Option β) : lnI (pm h m s) (m + 17) K = K 8 := by
  unfold lnI
  rw [pm_at h m s 17 (by decide)]
  rfl
theorem pm_sI34 {β : Type} (h : jh) (m : Nat) (s : ms) (i v : Int32) (K : jh → Option β) : sI (pm h m s) (m + 17) i v K = if i < 0 ∨ 8 ≤ i.toNatClampNeg then none else K (pm h m (st2 s 34 i.toNatClampNeg v)) := by
  unfold sI jsi
  rw [pm_at h m s 17 (by decide)]
  by_cases h1 : i < 0 ∨ 8 ≤ i.toNatClampNeg
  · simp only [mc, if_pos h1]
  · simp only [mc, if_neg h1]
    rw [pm_wr h m s (st2 s 34 i.toNatClampNeg v) 17 _ (by decide)]
    · show jI 8 (st2 s 34 i.toNatClampNeg v 34) = _
      rw [st2_up]
    · intro e he hne
      have : e = 0 ∨ e = 1 ∨ e = 2 ∨ e = 3 ∨ e = 4 ∨ e = 5 ∨ e = 6 ∨ e = 7 ∨ e = 8 ∨ e = 9 ∨ e = 10 ∨ e = 11 ∨ e = 12 ∨ e = 13 ∨ e = 14 ∨ e = 15 ∨ e = 16 ∨ e = 17 ∨ e = 18 := by omega
      rcases this with rfl | rfl | rfl | rfl | rfl | rfl | rfl | rfl | rfl | rfl | rfl | rfl | rfl | rfl | rfl | rfl | rfl | rfl | rfl <;> first | exact absurd rfl hne | rfl | (simp only [mc]; rw [st2_row (by decide)]; done) | (simp [mc, mo, st2]; done)
theorem pm_gR35 {β : Type} (h : jh) (m : Nat) (s : ms) (K : Nat → Option β) : gR (pm h m s) m 11 35 K = K (m + 18) := by unfold gR; rw [pm_jg]; rfl
theorem pm_aI35 {β : Type} (h : jh) (m : Nat) (s : ms) (i : Int32) (K : Int32 → Option β) : aI (pm h m s) (m + 18) i K = if i < 0 ∨ 3 ≤ i.toNatClampNeg then none else K (s 35 i.toNatClampNeg) := by
  unfold aI jai
  rw [pm_at h m s 18 (by decide)]
  by_cases h1 : i < 0 ∨ 3 ≤ i.toNatClampNeg
  · simp only [mc, if_pos h1]
  · simp only [mc, if_neg h1]
theorem pm_lnI35 {β : Type} (h : jh) (m : Nat) (s : ms) (K : Int32 → Option β) : lnI (pm h m s) (m + 18) K = K 3 := by
  unfold lnI
  rw [pm_at h m s 18 (by decide)]
  rfl
theorem pm_sI35 {β : Type} (h : jh) (m : Nat) (s : ms) (i v : Int32) (K : jh → Option β) : sI (pm h m s) (m + 18) i v K = if i < 0 ∨ 3 ≤ i.toNatClampNeg then none else K (pm h m (st2 s 35 i.toNatClampNeg v)) := by
  unfold sI jsi
  rw [pm_at h m s 18 (by decide)]
  by_cases h1 : i < 0 ∨ 3 ≤ i.toNatClampNeg
  · simp only [mc, if_pos h1]
  · simp only [mc, if_neg h1]
    rw [pm_wr h m s (st2 s 35 i.toNatClampNeg v) 18 _ (by decide)]
    · show jI 3 (st2 s 35 i.toNatClampNeg v 35) = _
      rw [st2_up]
    · intro e he hne
      have : e = 0 ∨ e = 1 ∨ e = 2 ∨ e = 3 ∨ e = 4 ∨ e = 5 ∨ e = 6 ∨ e = 7 ∨ e = 8 ∨ e = 9 ∨ e = 10 ∨ e = 11 ∨ e = 12 ∨ e = 13 ∨ e = 14 ∨ e = 15 ∨ e = 16 ∨ e = 17 ∨ e = 18 := by omega
      rcases this with rfl | rfl | rfl | rfl | rfl | rfl | rfl | rfl | rfl | rfl | rfl | rfl | rfl | rfl | rfl | rfl | rfl | rfl | rfl <;> first | exact absurd rfl hne | rfl | (simp only [mc]; rw [st2_row (by decide)]; done) | (simp [mc, mo, st2]; done)
theorem pm_aQ {β : Type} (h : jh) (m : Nat) (s : ms) (i : Int32) (K : Option Nat → Option β) : aQ (pm h m s) 3 (m + 1) i K = if i < 0 ∨ 11 ≤ i.toNatClampNeg then none else K (mw i.toNatClampNeg) := by
  unfold aQ
  rw [pm_at h m s 1 (by decide)]
  rfl
theorem pm_lnQ {β : Type} (h : jh) (m : Nat) (s : ms) (K : Int32 → Option β) : lnQ (pm h m s) 3 (m + 1) K = K 11 := by
  unfold lnQ
  rw [pm_at h m s 1 (by decide)]
  rfl
