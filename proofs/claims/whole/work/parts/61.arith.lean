/-! numbers: nI, and the reading of an array of the reference at a number -/
theorem al_lit (n : Nat) : (OfNat.ofNat n : Int32) = nI n := id rfl
theorem al_0 : (0 : Int32) = nI 0 := rfl
theorem al_1 : (1 : Int32) = nI 1 := rfl
theorem al_add (a b : Nat) : nI a + nI b = nI (a + b) := nI_add a b
theorem al_mul (a b : Nat) : nI a * nI b = nI (a * b) := pk_mul a b
theorem al_sub {a b : Nat} (h : b ≤ a) : nI a - nI b = nI (a - b) := pk_sub h
theorem al_ne1 {n : Nat} (h : n < 2147483648) : (nI n = -1) = False := by
  apply eq_false
  intro e
  have h1 := nI_toInt (n := n) (by omega)
  rw [e] at h1
  have h2 : (-1 : Int32).toInt = -1 := by decide
  omega
theorem al_ne1' {n : Nat} (h : n < 2147483648) : ((-1 : Int32) = nI n) = False := by
  rw [show ((-1 : Int32) = nI n) = (nI n = -1) from propext eq_comm]; exact al_ne1 h
theorem al_lt {a b : Nat} (ha : a < 2147483648) (hb : b < 2147483648) : (nI a < nI b) = (a < b) := propext (nI_ltI (by omega) (by omega))
theorem al_le {a b : Nat} (ha : a < 2147483648) (hb : b < 2147483648) : (nI a ≤ nI b) = (a ≤ b) := propext (nI_leI (by omega) (by omega))
theorem al_eq {a b : Nat} (ha : a < 2147483648) (hb : b < 2147483648) : (nI a = nI b) = (a = b) := propext (nI_eq (by omega) (by omega))
theorem al_neg {a : Nat} (ha : a < 2147483648) : (nI a < 0) = False := eq_false (nI_pos (by omega))
theorem al_m1lt {a : Nat} (ha : a < 2147483648) : (nI a < -1) = False := by
  apply eq_false
  rw [Int32.lt_iff_toInt_lt, nI_toInt (by omega), show (-1 : Int32).toInt = -1 by decide]
  omega
theorem al_cl {a : Nat} (ha : a < 2147483648) : (nI a).toNatClampNeg = a := nI_clamp (by omega)
/-- in range -/
theorem al_in {a N : Nat} (h : a < N) (hN : N < 2147483648) : ¬ (nI a < 0 ∨ N ≤ (nI a).toNatClampNeg) := nI_in h (by omega)
theorem bd_some {γ β : Type} (a : γ) (h : jh) (K : γ → jh → Option β) : bd (some (a, h)) K = K a h := rfl
theorem rd2 {β : Type} (h : jh) (m : Nat) (s : ms) (j : Nat) (K : Int32 → Option β) (hj : j < 595) : aI (pm h m s) (m + 2) (nI j) K = K (s 2 j) := by rw [pm_aI2, if_neg (al_in hj (by decide)), al_cl (by omega)]
theorem wr2 {β : Type} (h : jh) (m : Nat) (s : ms) (j : Nat) (v : Int32) (K : jh → Option β) (hj : j < 595) : sI (pm h m s) (m + 2) (nI j) v K = K (pm h m (st2 s 2 j v)) := by rw [pm_sI2, if_neg (al_in hj (by decide)), al_cl (by omega)]
theorem rd3 {β : Type} (h : jh) (m : Nat) (s : ms) (j : Nat) (K : Int32 → Option β) (hj : j < 3) : aI (pm h m s) (m + 3) (nI j) K = K (s 3 j) := by rw [pm_aI3, if_neg (al_in hj (by decide)), al_cl (by omega)]
theorem wr3 {β : Type} (h : jh) (m : Nat) (s : ms) (j : Nat) (v : Int32) (K : jh → Option β) (hj : j < 3) : sI (pm h m s) (m + 3) (nI j) v K = K (pm h m (st2 s 3 j v)) := by rw [pm_sI3, if_neg (al_in hj (by decide)), al_cl (by omega)]
theorem rd4 {β : Type} (h : jh) (m : Nat) (s : ms) (j : Nat) (K : Int32 → Option β) (hj : j < 900) : aI (pm h m s) (m + 4) (nI j) K = K (s 4 j) := by rw [pm_aI4, if_neg (al_in hj (by decide)), al_cl (by omega)]
theorem wr4 {β : Type} (h : jh) (m : Nat) (s : ms) (j : Nat) (v : Int32) (K : jh → Option β) (hj : j < 900) : sI (pm h m s) (m + 4) (nI j) v K = K (pm h m (st2 s 4 j v)) := by rw [pm_sI4, if_neg (al_in hj (by decide)), al_cl (by omega)]
theorem rd15 {β : Type} (h : jh) (m : Nat) (s : ms) (j : Nat) (K : Int32 → Option β) (hj : j < 360) : aI (pm h m s) (m + 5) (nI j) K = K (s 15 j) := by rw [pm_aI15, if_neg (al_in hj (by decide)), al_cl (by omega)]
theorem wr15 {β : Type} (h : jh) (m : Nat) (s : ms) (j : Nat) (v : Int32) (K : jh → Option β) (hj : j < 360) : sI (pm h m s) (m + 5) (nI j) v K = K (pm h m (st2 s 15 j v)) := by rw [pm_sI15, if_neg (al_in hj (by decide)), al_cl (by omega)]
theorem rd17 {β : Type} (h : jh) (m : Nat) (s : ms) (j : Nat) (K : Int32 → Option β) (hj : j < 5) : aI (pm h m s) (m + 6) (nI j) K = K (s 17 j) := by rw [pm_aI17, if_neg (al_in hj (by decide)), al_cl (by omega)]
theorem wr17 {β : Type} (h : jh) (m : Nat) (s : ms) (j : Nat) (v : Int32) (K : jh → Option β) (hj : j < 5) : sI (pm h m s) (m + 6) (nI j) v K = K (pm h m (st2 s 17 j v)) := by rw [pm_sI17, if_neg (al_in hj (by decide)), al_cl (by omega)]
theorem rd19 {β : Type} (h : jh) (m : Nat) (s : ms) (j : Nat) (K : Int32 → Option β) (hj : j < 23800) : aI (pm h m s) (m + 7) (nI j) K = K (s 19 j) := by rw [pm_aI19, if_neg (al_in hj (by decide)), al_cl (by omega)]
theorem wr19 {β : Type} (h : jh) (m : Nat) (s : ms) (j : Nat) (v : Int32) (K : jh → Option β) (hj : j < 23800) : sI (pm h m s) (m + 7) (nI j) v K = K (pm h m (st2 s 19 j v)) := by rw [pm_sI19, if_neg (al_in hj (by decide)), al_cl (by omega)]
theorem rd20 {β : Type} (h : jh) (m : Nat) (s : ms) (j : Nat) (K : Int32 → Option β) (hj : j < 595) : aI (pm h m s) (m + 8) (nI j) K = K (s 20 j) := by rw [pm_aI20, if_neg (al_in hj (by decide)), al_cl (by omega)]
theorem wr20 {β : Type} (h : jh) (m : Nat) (s : ms) (j : Nat) (v : Int32) (K : jh → Option β) (hj : j < 595) : sI (pm h m s) (m + 8) (nI j) v K = K (pm h m (st2 s 20 j v)) := by rw [pm_sI20, if_neg (al_in hj (by decide)), al_cl (by omega)]
theorem rd21 {β : Type} (h : jh) (m : Nat) (s : ms) (j : Nat) (K : Int32 → Option β) (hj : j < 128) : aI (pm h m s) (m + 9) (nI j) K = K (s 21 j) := by rw [pm_aI21, if_neg (al_in hj (by decide)), al_cl (by omega)]
theorem wr21 {β : Type} (h : jh) (m : Nat) (s : ms) (j : Nat) (v : Int32) (K : jh → Option β) (hj : j < 128) : sI (pm h m s) (m + 9) (nI j) v K = K (pm h m (st2 s 21 j v)) := by rw [pm_sI21, if_neg (al_in hj (by decide)), al_cl (by omega)]
theorem rd23 {β : Type} (h : jh) (m : Nat) (s : ms) (j : Nat) (K : Int32 → Option β) (hj : j < 8) : aI (pm h m s) (m + 10) (nI j) K = K (s 23 j) := by rw [pm_aI23, if_neg (al_in hj (by decide)), al_cl (by omega)]
theorem wr23 {β : Type} (h : jh) (m : Nat) (s : ms) (j : Nat) (v : Int32) (K : jh → Option β) (hj : j < 8) : sI (pm h m s) (m + 10) (nI j) v K = K (pm h m (st2 s 23 j v)) := by rw [pm_sI23, if_neg (al_in hj (by decide)), al_cl (by omega)]
theorem rd24 {β : Type} (h : jh) (m : Nat) (s : ms) (j : Nat) (K : Int32 → Option β) (hj : j < 8) : aI (pm h m s) (m + 11) (nI j) K = K (s 24 j) := by rw [pm_aI24, if_neg (al_in hj (by decide)), al_cl (by omega)]
theorem wr24 {β : Type} (h : jh) (m : Nat) (s : ms) (j : Nat) (v : Int32) (K : jh → Option β) (hj : j < 8) : sI (pm h m s) (m + 11) (nI j) v K = K (pm h m (st2 s 24 j v)) := by rw [pm_sI24, if_neg (al_in hj (by decide)), al_cl (by omega)]
theorem rd25 {β : Type} (h : jh) (m : Nat) (s : ms) (j : Nat) (K : Int32 → Option β) (hj : j < 8) : aI (pm h m s) (m + 12) (nI j) K = K (s 25 j) := by rw [pm_aI25, if_neg (al_in hj (by decide)), al_cl (by omega)]
theorem wr25 {β : Type} (h : jh) (m : Nat) (s : ms) (j : Nat) (v : Int32) (K : jh → Option β) (hj : j < 8) : sI (pm h m s) (m + 12) (nI j) v K = K (pm h m (st2 s 25 j v)) := by rw [pm_sI25, if_neg (al_in hj (by decide)), al_cl (by omega)]
theorem rd30 {β : Type} (h : jh) (m : Nat) (s : ms) (j : Nat) (K : Int32 → Option β) (hj : j < 595) : aI (pm h m s) (m + 13) (nI j) K = K (s 30 j) := by rw [pm_aI30, if_neg (al_in hj (by decide)), al_cl (by omega)]
theorem wr30 {β : Type} (h : jh) (m : Nat) (s : ms) (j : Nat) (v : Int32) (K : jh → Option β) (hj : j < 595) : sI (pm h m s) (m + 13) (nI j) v K = K (pm h m (st2 s 30 j v)) := by rw [pm_sI30, if_neg (al_in hj (by decide)), al_cl (by omega)]
theorem rd31 {β : Type} (h : jh) (m : Nat) (s : ms) (j : Nat) (K : Int32 → Option β) (hj : j < 23800) : aI (pm h m s) (m + 14) (nI j) K = K (s 31 j) := by rw [pm_aI31, if_neg (al_in hj (by decide)), al_cl (by omega)]
theorem wr31 {β : Type} (h : jh) (m : Nat) (s : ms) (j : Nat) (v : Int32) (K : jh → Option β) (hj : j < 23800) : sI (pm h m s) (m + 14) (nI j) v K = K (pm h m (st2 s 31 j v)) := by rw [pm_sI31, if_neg (al_in hj (by decide)), al_cl (by omega)]
theorem rd32 {β : Type} (h : jh) (m : Nat) (s : ms) (j : Nat) (K : Int32 → Option β) (hj : j < 8) : aI (pm h m s) (m + 15) (nI j) K = K (s 32 j) := by rw [pm_aI32, if_neg (al_in hj (by decide)), al_cl (by omega)]
theorem wr32 {β : Type} (h : jh) (m : Nat) (s : ms) (j : Nat) (v : Int32) (K : jh → Option β) (hj : j < 8) : sI (pm h m s) (m + 15) (nI j) v K = K (pm h m (st2 s 32 j v)) := by rw [pm_sI32, if_neg (al_in hj (by decide)), al_cl (by omega)]
theorem rd33 {β : Type} (h : jh) (m : Nat) (s : ms) (j : Nat) (K : Int32 → Option β) (hj : j < 8) : aI (pm h m s) (m + 16) (nI j) K = K (s 33 j) := by rw [pm_aI33, if_neg (al_in hj (by decide)), al_cl (by omega)]
theorem wr33 {β : Type} (h : jh) (m : Nat) (s : ms) (j : Nat) (v : Int32) (K : jh → Option β) (hj : j < 8) : sI (pm h m s) (m + 16) (nI j) v K = K (pm h m (st2 s 33 j v)) := by rw [pm_sI33, if_neg (al_in hj (by decide)), al_cl (by omega)]
theorem rd34 {β : Type} (h : jh) (m : Nat) (s : ms) (j : Nat) (K : Int32 → Option β) (hj : j < 8) : aI (pm h m s) (m + 17) (nI j) K = K (s 34 j) := by rw [pm_aI34, if_neg (al_in hj (by decide)), al_cl (by omega)]
theorem wr34 {β : Type} (h : jh) (m : Nat) (s : ms) (j : Nat) (v : Int32) (K : jh → Option β) (hj : j < 8) : sI (pm h m s) (m + 17) (nI j) v K = K (pm h m (st2 s 34 j v)) := by rw [pm_sI34, if_neg (al_in hj (by decide)), al_cl (by omega)]
theorem rd35 {β : Type} (h : jh) (m : Nat) (s : ms) (j : Nat) (K : Int32 → Option β) (hj : j < 3) : aI (pm h m s) (m + 18) (nI j) K = K (s 35 j) := by rw [pm_aI35, if_neg (al_in hj (by decide)), al_cl (by omega)]
theorem wr35 {β : Type} (h : jh) (m : Nat) (s : ms) (j : Nat) (v : Int32) (K : jh → Option β) (hj : j < 3) : sI (pm h m s) (m + 18) (nI j) v K = K (pm h m (st2 s 35 j v)) := by rw [pm_sI35, if_neg (al_in hj (by decide)), al_cl (by omega)]
