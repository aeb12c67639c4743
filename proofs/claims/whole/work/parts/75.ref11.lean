/-! the reference's deeds by their word -/
def cl (x : Int32) (N : Nat) : Nat := if x < 0 ∨ nI N ≤ x then N else x.toNatClampNeg
theorem cl_in {n N : Nat} (h : n < N) (hN : N < 2147483648) : cl (nI n) N = n := by
  unfold cl
  rw [if_neg (by
    rw [al_neg (by omega), al_le (by omega) (by omega)]
    rintro (h1 | h1)
    · exact h1
    · omega), al_cl (by omega)]
theorem cl_out {x : Int32} {N : Nat} (h : x < 0 ∨ nI N ≤ x) : cl x N = N := if_pos h
theorem cl_le (x : Int32) (N : Nat) (hN : N < 2147483648) : cl x N ≤ N := by
  rcases i_cases x N hN with ⟨n, h1, rfl⟩ | h
  · rw [cl_in h1 hN]; omega
  · rw [cl_out h]; exact Nat.le_refl N
theorem cl_eq {x : Int32} {N : Nat} (hN : N < 2147483648) (h : cl x N < N) : x = nI (cl x N) := by
  rcases i_cases x N hN with ⟨n, h1, rfl⟩ | h2
  · rw [cl_in h1 hN]
  · rw [cl_out h2] at h; omega
def dDo (v : vw) (w : Nat) (p a b c d : Int32) : Int32 × vw :=
  if cl p 16 < 16 ∧ v 0 (cl p 16) = 1 then
    if w = 0 then dFrk v (cl p 16) else if w = 1 then dCrU v (cl p 16) else if w = 2 then dCrN v (cl p 16) else if w = 3 then dCrM v (cl p 16)
    else if w = 4 then dMap v (cl p 16) (cl a 8) (cl b 100) (cl c 100) (cl d 100)
    else if w = 5 then dBec v (cl p 16) (cl a 100) else if w = 6 then dMnt v (cl p 16) (cl a 8) (cl b 100)
    else if w = 7 then dEnt v (cl p 16) (cl a 16) (cl b 3)
    else if w = 8 then (if cl p 16 = 0 then (nm1, v) else dEnd v (cl p 16))
    else if w = 9 then (if cl a 16 < 16 ∧ v 0 (cl a 16) = 1 ∧ cnkV v (cl p 16) (cl a 16) = true then dEnd v (cl a 16) else (nm1, v))
    else dShr v (cl p 16)
  else (nm1, v)
theorem RD_bd {h : jh} {m : Nat} {s : ms} {o : Option (Int32 × jh)} {d : Int32 × vw} (H : RD h m s o d) : RD h m s (bd o fun a b => some (a, b)) d := by
  obtain ⟨s', e, h2, h3⟩ := H
  exact ⟨s', by rw [e, bd_some], h2, h3⟩
theorem d_mount' {h : jh} {m : Nat} {s : ms} {v : vw} (R : RowV (s 2) v) (W : WFv v) (p : Nat) (x y : Int32) (hp : p < 16) (hxy : (x < 0 ∨ nI 8 ≤ x) ∨ (y < 0 ∨ nI 100 ≤ y)) : RD h m s (f_X13_mountNow m (nI p) x y (pm h m s)) (nm1, v) := by
  have o1 : ∀ (z : Int32) (N : Nat), N < 2147483648 → 1 ≤ N → (z < 0 ∨ nI N ≤ z) → decide (0 ≤ z ∧ z ≤ nI (N - 1)) = false := by
    intro z N hN h1 hz
    apply decide_eq_false
    rintro ⟨h1, h2⟩
    rcases hz with h3 | h3
    · exact absurd h3 (Int32.not_lt.mpr h1)
    · have := Int32.le_trans h3 h2
      rw [al_le (by omega) (by omega)] at this
      omega
  unfold f_X13_mountNow
  rw [pm_cV, show f_X13_of m (nI p) 4 (pm h m s) = _ from v_of R p 4 hp (by decide), bd_some, r_isIn, bd_some]
  rcases hxy with h1 | h1
  · rw [show decide (0 ≤ x ∧ x ≤ 7) = false from o1 x 8 (by decide) (by decide) h1, if_pos (by decide)]
    exact RD_no R
  · cases decide (0 ≤ x ∧ x ≤ 7)
    · rw [if_pos (by decide)]; exact RD_no R
    · rw [if_neg (by decide), r_isIn, bd_some, show decide (0 ≤ y ∧ y ≤ 99) = false from o1 y 100 (by decide) (by decide) h1, if_pos (by decide)]
      exact RD_no R
theorem r_kind1 (h : jh) : f_X13_kindOf (nI 1) h = some (nI 1, h) := rfl
theorem t_b70_1 {h : jh} {m : Nat} {s : ms} (q : Nat) : f_X13_does_b70 m (nI 1) (nI q) (pm h m s) = bd (f_X13_createNow m (nI q) (nI 1) (pm h m s)) fun a b => some (a, b) := by
  unfold f_X13_does_b70
  rw [r_kind1, bd_some, pm_cV]
theorem r_kind2 (h : jh) : f_X13_kindOf (nI 2) h = some (nI 0, h) := rfl
theorem t_b70_2 {h : jh} {m : Nat} {s : ms} (q : Nat) : f_X13_does_b70 m (nI 2) (nI q) (pm h m s) = bd (f_X13_createNow m (nI q) (nI 0) (pm h m s)) fun a b => some (a, b) := by
  unfold f_X13_does_b70
  rw [r_kind2, bd_some, pm_cV]
theorem r_kind3 (h : jh) : f_X13_kindOf (nI 3) h = some (nI 2, h) := rfl
theorem t_b70_3 {h : jh} {m : Nat} {s : ms} (q : Nat) : f_X13_does_b70 m (nI 3) (nI q) (pm h m s) = bd (f_X13_createNow m (nI q) (nI 2) (pm h m s)) fun a b => some (a, b) := by
  unfold f_X13_does_b70
  rw [r_kind3, bd_some, pm_cV]
theorem d_does {h : jh} {m : Nat} {s : ms} {v : vw} (R : RowV (s 2) v) (W : WFv v) (M : SMv v) (w : Nat) (p a b c d : Int32) (hw : w < 11) (h4 : w = 4 → cl b 100 < 100 ∧ cl c 100 < 100 ∧ cl d 100 < 100) (h7 : w = 7 → cl b 3 < 3) : RD h m s (f_X13_does m (nI w) p a b c d (pm h m s)) (dDo v w p a b c d) := by
  have kn : ∀ j, j < 11 → ((nI w = (OfNat.ofNat j : Int32)) ↔ w = j) := fun j hj => iff_of_eq (al_eq (by omega) (by omega))
  unfold f_X13_does dDo
  rw [pm_cV]
  rcases i_cases p 16 (by decide) with ⟨q, hq, rfl⟩ | hout
  · rw [cl_in hq (by decide), t_there R W q hq, bd_some]
    by_cases hq1 : v 0 q = 1
    · rw [decide_eq_true hq1, if_pos (show ¬ bn true = 0 by decide), if_pos (show q < 16 ∧ v 0 q = 1 from ⟨hq, hq1⟩)]
      simp only [pm_cV]
      by_cases w0 : w = 0
      · rw [if_pos ((kn 0 (by decide)).mpr w0), if_pos w0]; exact RD_bd (d_fork R W M q hq hq1)
      rw [if_neg (mt (kn 0 (by decide)).mp w0), if_neg w0]
      by_cases w1 : w = 1
      · subst w1
        rw [if_pos (show nI 1 = 1 from rfl), t_b70_1]
        exact RD_bd (d_createU R W q hq)
      rw [if_neg (mt (kn 1 (by decide)).mp w1), if_neg w1]
      by_cases w2 : w = 2
      · subst w2
        rw [if_pos (show nI 2 = 2 from rfl), t_b70_2]
        exact RD_bd (d_createN R W q hq)
      rw [if_neg (mt (kn 2 (by decide)).mp w2), if_neg w2]
      by_cases w3 : w = 3
      · subst w3
        rw [if_pos (show nI 3 = 3 from rfl), t_b70_3]
        exact RD_bd (d_createM R W q hq)
      rw [if_neg (mt (kn 3 (by decide)).mp w3), if_neg w3]
      by_cases w4 : w = 4
      · rw [if_pos ((kn 4 (by decide)).mpr w4), if_pos w4]
        obtain ⟨g1, g2, g3⟩ := h4 w4
        rw [cl_eq (by decide) g1, cl_eq (by decide) g2, cl_eq (by decide) g3, cl_in g1 (by decide), cl_in g2 (by decide), cl_in g3 (by decide)]
        rcases i_cases a 8 (by decide) with ⟨x, hx, rfl⟩ | ho
        · rw [cl_in hx (by decide)]; exact RD_bd (d_map R W q x _ _ _ hq hx g1 g2 g3)
        · rw [cl_out ho]
          have e : dMap v q 8 (cl b 100) (cl c 100) (cl d 100) = (nm1, v) := by unfold dMap; rw [if_neg (by omega)]
          rw [e]; exact RD_bd (d_map' R W q _ _ _ a ho)
      rw [if_neg (mt (kn 4 (by decide)).mp w4), if_neg w4]
      by_cases w5 : w = 5
      · rw [if_pos ((kn 5 (by decide)).mpr w5), if_pos w5]
        rcases i_cases a 100 (by decide) with ⟨x, hx, rfl⟩ | ho
        · rw [cl_in hx (by decide)]; exact RD_bd (d_become R W q x hq hx)
        · rw [cl_out ho]; exact RD_bd (d_become' R W q a hq ho)
      rw [if_neg (mt (kn 5 (by decide)).mp w5), if_neg w5]
      by_cases w6 : w = 6
      · rw [if_pos ((kn 6 (by decide)).mpr w6), if_pos w6]
        rcases i_cases a 8 (by decide) with ⟨x, hx, rfl⟩ | ho
        · rcases i_cases b 100 (by decide) with ⟨y, hy, rfl⟩ | ho
          · rw [cl_in hx (by decide), cl_in hy (by decide)]; exact RD_bd (d_mount R W q x y hq hx hy)
          · rw [cl_out ho]
            have e : dMnt v q (cl (nI x) 8) 100 = (nm1, v) := by unfold dMnt; rw [if_neg (by omega)]
            rw [e]; exact RD_bd (d_mount' R W q _ b hq (Or.inr ho))
        · rw [cl_out ho]
          have e : dMnt v q 8 (cl b 100) = (nm1, v) := by unfold dMnt; rw [if_neg (by omega)]
          rw [e]; exact RD_bd (d_mount' R W q a b hq (Or.inl ho))
      rw [if_neg (mt (kn 6 (by decide)).mp w6), if_neg w6]
      by_cases w7 : w = 7
      · rw [if_pos ((kn 7 (by decide)).mpr w7), if_pos w7]
        have g1 := h7 w7
        rw [cl_eq (by decide) g1, cl_in g1 (by decide)]
        rcases i_cases a 16 (by decide) with ⟨x, hx, rfl⟩ | ho
        · rw [cl_in hx (by decide), t_there R W x hx, bd_some]
          by_cases hx1 : v 0 x = 1
          · rw [decide_eq_true hx1, if_neg (show ¬ bn true = 0 by decide), pm_cV]; exact RD_bd (d_enter R W q x _ hq hx g1 hx1)
          · rw [decide_eq_false hx1, if_pos (show bn false = 0 by decide)]
            have e : dEnt v q x (cl b 3) = (nm1, v) := by unfold dEnt; rw [if_neg (fun e => hx1 e.2.2.1)]
            rw [e]; exact RD_no R
        · rw [cl_out ho, t_there' _ ho, bd_some, if_pos (show bn false = 0 by decide)]
          have e : dEnt v q 16 (cl b 3) = (nm1, v) := by unfold dEnt; rw [if_neg (by omega)]
          rw [e]; exact RD_no R
      rw [if_neg (mt (kn 7 (by decide)).mp w7), if_neg w7]
      by_cases w8 : w = 8
      · rw [if_pos ((kn 8 (by decide)).mpr w8), if_pos w8]
        have k0 : (nI q = (0 : Int32)) ↔ q = 0 := iff_of_eq (al_eq (b := 0) (by omega) (by omega))
        by_cases h0 : q = 0
        · rw [if_neg (not_not_intro (k0.mpr h0)), if_pos h0]; exact RD_no R
        · rw [if_pos (mt k0.mp h0), if_neg h0]; exact RD_bd (d_end R W M q hq hq1)
      rw [if_neg (mt (kn 8 (by decide)).mp w8), if_neg w8]
      by_cases w9 : w = 9
      · rw [if_pos ((kn 9 (by decide)).mpr w9), if_pos w9]
        rcases i_cases a 16 (by decide) with ⟨x, hx, rfl⟩ | ho
        · rw [cl_in hx (by decide), t_there R W x hx, bd_some]
          by_cases hx1 : v 0 x = 1
          · rw [decide_eq_true hx1, if_neg (show ¬ bn true = 0 by decide), pm_cV, t_canKill R W q x hq hx, bd_some]
            cases hk : cnkV v q x
            · rw [if_pos (show bn false = 0 by decide), if_neg (by simp)]; exact RD_no R
            · rw [if_neg (show ¬ bn true = 0 by decide), if_pos ⟨hx, hx1, rfl⟩, pm_cV]; exact RD_bd (d_end R W M x hx hx1)
          · rw [decide_eq_false hx1, if_pos (show bn false = 0 by decide), if_neg (fun e => hx1 e.2.1)]
            exact RD_no R
        · rw [cl_out ho, t_there' _ ho, bd_some, if_pos (show bn false = 0 by decide), if_neg (by omega)]
          exact RD_no R
      rw [if_neg (mt (kn 9 (by decide)).mp w9), if_neg w9]
      exact RD_bd (d_share R W q hq)
    · rw [decide_eq_false hq1, if_neg (show ¬ ¬ bn false = 0 by decide), if_neg (fun e => hq1 e.2)]
      exact RD_no R
  · rw [cl_out hout, t_there' _ hout, bd_some, if_neg (show ¬ ¬ bn false = 0 by decide), if_neg (by omega)]
    exact RD_no R
