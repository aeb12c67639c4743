theorem mk_m3 : Cond.initialized "java/lang/Math" ∈ lw_tbl := jv_at 177 (by decide +kernel)
theorem mk_min1 : Cond.static Lib.Math.min.name ∈ lw_tbl := jv_at 556 (by decide +kernel)
set_option maxRecDepth 20000 in
theorem mk_min2 : Cond.code Lib.Math.min.name Lib.Math.min.code 2 (some .int) ∈ lw_tbl := jv_in2 (List.mem_of_getElem? (i := 157) rfl)
theorem jv_mmin {α : Type} {X : jx} {M : jm} {b0 : Nat × Nat} {en : α → jr} {pc : Nat} {L : List (Option Value)} {S : List Value} {h : jh} {o : Option (α × jh)} {x y : Int32} {i : Nat} (hd : decode M.2.1 pc = .ok (.invokestatic i, 3)) (hl : Cond.methodLink M.1.cls i Lib.Math.min.name ∈ lw_tbl) (hw : (S.map fun v => v.category).sum ≤ 8) (hf : 1 ≤ M.2.2.2.2.1 ∧ 21 ≤ M.2.2.2.2.2.1) (k : jv_O X M b0 en (pc + 3) L (.int (if y < x then y else x) :: S) h o) : jv_O X M b0 en pc L (.int y :: .int x :: S) h o := by
  intro a h' e0
  obtain ⟨k1, k2⟩ := k a h' e0
  refine ⟨k1, fun b1 b2 p e R s m args below meth c H locs ls hC hc hs hlo hL hn hH => ?_⟩
  have hT := hC.2.2.2.2.2.1.1
  have h1 := hC.2.2.2.2.2.2.2.2.2.1
  have h2 := hC.2.2.2.2.2.2.2.2.2.2
  have q1 := k1.1
  have q2 := k1.2
  exact va_mmin hC.1 hC.2.1 (hC.2.2.2.1.trans (hn.symm.trans hL.1.symm)) hC.2.2.2.2.1 (hT.use hl rfl args) (hT.use mk_min1 rfl args) (hT.use mk_m3 rfl args) (hT.use mk_min2 rfl args) (by omega) (by omega) (by omega) (by omega) hd (k2 b1 b2 p e R s m args below meth c H locs ls hC hc hs hlo hL hn hH)
theorem mk_max1 : Cond.static Lib.Math.max.name ∈ lw_tbl := jv_at 802 (by decide +kernel)
set_option maxRecDepth 20000 in
theorem mk_max2 : Cond.code Lib.Math.max.name Lib.Math.max.code 2 (some .int) ∈ lw_tbl := jv_in3 (List.mem_of_getElem? (i := 163) rfl)
theorem jv_mmax {α : Type} {X : jx} {M : jm} {b0 : Nat × Nat} {en : α → jr} {pc : Nat} {L : List (Option Value)} {S : List Value} {h : jh} {o : Option (α × jh)} {x y : Int32} {i : Nat} (hd : decode M.2.1 pc = .ok (.invokestatic i, 3)) (hl : Cond.methodLink M.1.cls i Lib.Math.max.name ∈ lw_tbl) (hw : (S.map fun v => v.category).sum ≤ 8) (hf : 1 ≤ M.2.2.2.2.1 ∧ 21 ≤ M.2.2.2.2.2.1) (k : jv_O X M b0 en (pc + 3) L (.int (if x < y then y else x) :: S) h o) : jv_O X M b0 en pc L (.int y :: .int x :: S) h o := by
  intro a h' e0
  obtain ⟨k1, k2⟩ := k a h' e0
  refine ⟨k1, fun b1 b2 p e R s m args below meth c H locs ls hC hc hs hlo hL hn hH => ?_⟩
  have hT := hC.2.2.2.2.2.1.1
  have h1 := hC.2.2.2.2.2.2.2.2.2.1
  have h2 := hC.2.2.2.2.2.2.2.2.2.2
  have q1 := k1.1
  have q2 := k1.2
  exact va_mmax hC.1 hC.2.1 (hC.2.2.2.1.trans (hn.symm.trans hL.1.symm)) hC.2.2.2.2.1 (hT.use hl rfl args) (hT.use mk_max1 rfl args) (hT.use mk_m3 rfl args) (hT.use mk_max2 rfl args) (by omega) (by omega) (by omega) (by omega) hd (k2 b1 b2 p e R s m args below meth c H locs ls hC hc hs hlo hL hn hH)
/-- a number with a name -/
def lt1 {β : Type} (x : Int32) (K : Int32 → Option β) : Option β := K x
theorem jv_lt1 {α : Type} {X : jx} {M : jm} {b0 : Nat × Nat} {en : α → jr} {pc : Nat} {L : List (Option Value)} {S : List Value} {h : jh} {x : Int32} {K : Int32 → Option (α × jh)} (k : ∀ v, v = x → jv_O X M b0 en pc L S h (K v)) : jv_O X M b0 en pc L S h (lt1 x K) := k x rfl
