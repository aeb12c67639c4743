/-! what the questions by call answer; the reference's loops for them -/
theorem i_no {x : Int32} {N : Nat} (ho : x < 0 ∨ nI N ≤ x) (hN : N < 2147483648) : ∀ k, k < N → (x = nI k) = False := by
  intro k hk
  apply eq_false
  intro e
  rw [e, al_neg (by omega), al_le (by omega) (by omega)] at ho
  rcases ho with h | h
  · exact h
  · omega
theorem in_cl (x : Int32) (M N : Nat) (e : N = M + 1) (hN : N < 2147483648) : decide (nI 0 ≤ x ∧ x ≤ nI M) = decide (cl x N < N) := by
  subst e
  rcases i_cases x (M + 1) hN with ⟨n, hn, rfl⟩ | ho
  · rw [cl_in hn hN]
    apply decide_eq_decide.mpr
    rw [al_le (by omega) (by omega), al_le (by omega) (by omega)]
    omega
  · rw [cl_out ho]
    have : ¬ (nI 0 ≤ x ∧ x ≤ nI M) := by
      rintro ⟨h1, h2⟩
      rcases ho with h3 | h3
      · exact absurd h3 (Int32.not_lt.mpr h1)
      · have h4 := Int32.le_trans h3 h2
        rw [al_le (by omega) (by omega)] at h4
        omega
    simp [this]
def isP (v : vw) (x : Int32) : Bool := decide (cl x 16 < 16 ∧ v 0 (cl x 16) = 1)
theorem isP_t {v : vw} {x : Int32} (h : isP v x = true) : ∃ p, p < 16 ∧ x = nI p ∧ cl x 16 = p ∧ v 0 p = 1 := by
  obtain ⟨h1, h2⟩ := of_decide_eq_true h
  exact ⟨cl x 16, h1, cl_eq (by decide) h1, rfl, h2⟩
def isS (v : vw) (a : Nat) (x : Int32) : Bool := decide (cl x 8 < v a 0)
theorem isS_t {v : vw} {a : Nat} {x : Int32} (hc : v a 0 ≤ 8) (h : isS v a x = true) : ∃ s, s < v a 0 ∧ x = nI s ∧ cl x 8 = s := by
  have h1 := of_decide_eq_true h
  exact ⟨cl x 8, h1, cl_eq (by decide) (by omega), rfl⟩
def thb (v : vw) : Int32 := bts (fun p => decide (v 0 p = 1)) 16 0 (nI 0)
def pwb (v : vw) : Int32 := bts (fun p => decide (v 0 p = 1 ∧ v 7 p = 1)) 16 0 (nI 0)
def ddb (v : vw) : Int32 := bts (fun s => decide (v 51 s = 1)) (v 10 0) 0 (nI 0)
def bct (x : Int32) : Int32 := (f_J6_bitCount_0f7a4 x (0, 0, fun _ => jv_abs)).elim 0 (fun q => q.1)
theorem bct_e (x : Int32) (h : jh) : f_J6_bitCount_0f7a4 x h = some (bct x, h) := rfl
def qCount (T : ta) (n : Nat) (w : Nat) : Nat × Int32 :=
  if w = 0 then (0, thb T.1) else if w = 1 then (0, bct (thb T.1)) else if w = 2 then (0, nI (T.1 10 0)) else if w = 3 then (0, nI (T.1 11 0)) else if w = 4 then (0, nI (T.1 12 0)) else if w = 5 then (0, ddb T.1) else if w = 6 then (0, pwb T.1) else if w = 7 then (0, nI T.2.1) else if w = 8 then (0, nI T.2.2.2.1) else if w = 9 then (0, nI n) else if w = 10 then (0, T.2.2.2.2 3 0) else if w = 11 then (0, T.2.2.2.2 3 1) else if w = 12 then (0, T.2.2.2.2 3 2) else (1, nI 0)
def qPr (v : vw) (p w : Nat) : Nat × Int32 :=
  if w = 0 then (0, nI (v 1 p)) else if w = 1 then (0, nI (v 2 p)) else if w = 2 then (0, nI (v 3 p)) else if w = 3 then (0, nI (v 4 p)) else if w = 4 then (0, nI (v 5 p)) else if w = 5 then (0, nI (v 8 (8 * p + v 2 p))) else if w = 6 then (0, nI (v 6 p)) else if w = 7 then (0, nI (iwl v (ch v 1 (v 3 p)) (v 6 p))) else if w = 8 then (0, nI (v 7 p)) else if w = 9 then (0, bn (isIni v p)) else (1, nI 0)
def qProcess (v : vw) (x a : Int32) : Nat × Int32 := if isP v x = true then qPr v (cl x 16) (cl a 10) else (1, nI 0)
def hmi (v : vw) (k s : Nat) : Nat := cnt (fun p => decide (v 0 p = 1 ∧ v (2 + k) p = s)) 16 0
def piu (v : vw) (s : Nat) : Nat := cnt (fun i => decide (v 71 (8 * s + i) ≠ 0)) 8 0
def qSp (v : vw) (k s w : Nat) : Nat × Int32 :=
  if w = 0 then (0, if s = 0 then nm1 else nI (v (20 + k) s)) else if w = 1 then (0, nI (v (30 + k) s)) else if w = 2 then (0, nI (v (40 + k) s)) else if w = 3 then (0, nI (hmi v k s))
  else if w = 4 then (0, if k = 0 then on 16 (initV v s) else if k = 1 then nI (v 60 s) else nI (piu v s)) else if w = 5 then (0, if k = 2 then nI (v 70 s) else nI 0) else if w = 6 then (0, if k = 2 then sprd v s else nI 0) else (1, nI 0)
def qSpace (v : vw) (k x a : Int32) : Nat × Int32 := if cl k 3 < 3 then (if isS v (10 + cl k 3) x = true then qSp v (cl k 3) (cl x 8) (cl a 7) else (1, nI 0)) else (1, nI 0)
def qNumber (v : vw) (x y : Int32) : Nat × Int32 := if isP v x = true then (if isS v 10 y = true then (0, if v 8 (8 * cl x 16 + cl y 8) = 0 then nm1 else nI (v 8 (8 * cl x 16 + cl y 8))) else (1, nI 0)) else (1, nI 0)
def lst (v : vw) (s : Nat) (i : Int32) : Nat → Nat → Nat → Nat × Int32
  | 0, _, n => if i = nm1 then (0, nI n) else (1, nI 0)
  | k + 1, u, n => if who v s u = 16 then lst v s i k (u + 1) n else if nI n = i then (0, nI (who v s u)) else lst v s i k (u + 1) (n + 1)
def qListed (v : vw) (x i : Int32) : Nat × Int32 := if isS v 10 x = true then lst v (cl x 8) i 20 1 0 else (1, nI 0)
def qInside (v : vw) (x y : Int32) : Nat × Int32 := if isS v 11 x = true then (if cl y 100 < 100 then (0, nI (iwl v (ch v 1 (cl x 8)) (cl y 100))) else (2, nI 0)) else (1, nI 0)
def qOutside (v : vw) (x y : Int32) : Nat × Int32 := if isS v 11 x = true then (if cl y 100 < 100 then (0, nI (owl v (ch v 1 (cl x 8)) (cl y 100))) else (2, nI 0)) else (1, nI 0)
def qRange (v : vw) (x i a : Int32) : Nat × Int32 := if isS v 11 x = true then (if cl i 3 < v 60 (cl x 8) then (if cl a 3 < 3 then (0, nI (v (61 + cl a 3) (3 * cl x 8 + cl i 3))) else (1, nI 0)) else (1, nI 0)) else (1, nI 0)
def qMounted (v : vw) (x i : Int32) : Nat × Int32 := if isS v 12 x = true then (if cl i 8 < 8 then (0, nI (v 71 (8 * cl x 8 + cl i 8))) else (1, nI 0)) else (1, nI 0)
def qMy (v : vw) (p q w : Nat) : Nat × Int32 :=
  if w = 0 then (0, bn (sesV v p q)) else if w = 1 then (0, bn (ovp v p (v 3 q))) else if w = 2 then (0, bn (cnkV v p q)) else if w = 3 then (0, bn (cneV v p q 1)) else if w = 4 then (0, bn (cneV v p q 0)) else if w = 5 then (0, bn (cneV v p q 2)) else (1, nI 0)
def qMay (v : vw) (x y a : Int32) : Nat × Int32 := if isP v x = true then (if isP v y = true then qMy v (cl x 16) (cl y 16) (cl a 6) else (1, nI 0)) else (1, nI 0)
def qOver (v : vw) (x y : Int32) : Nat × Int32 := if isP v x = true then (if isS v 11 y = true then (0, bn (ovp v (cl x 16) (cl y 8))) else (1, nI 0)) else (1, nI 0)
def rch (v : vw) (p : Nat) : Int32 := bts (fun q => decide (v 0 q = 1) && cnkV v p q) 16 0 (nI 0)
def shn (v : vw) (s o : Nat) : Nat := cnt (fun id => decide (iwl v (ch v 1 s) id ≠ 65534 ∧ iwl v (ch v 1 o) id ≠ 65534)) 100 0
def qShared (v : vw) (x y : Int32) : Nat × Int32 := if isS v 11 x = true then (if isS v 11 y = true then (0, nI (shn v (cl x 8) (cl y 8))) else (1, nI 0)) else (1, nI 0)
/-! a note that would be so, some having ended -/
def alls (P : Nat → Bool) : Nat → Nat → Bool
  | 0, _ => true
  | k + 1, i => P i && alls P k (i + 1)
def wbe (v : vw) (s n : Nat) (g : Int32) : Bool := decide (s < v 10 0) && (decide (who v s n ≠ 16) && !(hb g (who v s n)))
def ntP (v : vw) (N : ms) (g : Int32) (j : Nat) : Bool := wbe v (cl (N 0 j) 8) (cl (N 1 j) 100) g == decide (N 2 j = nI 1)
def fitg (v : vw) (c : Nat) (N : ms) (g : Int32) : Bool := alls (ntP v N g) c 0
def fitb (T : ta) : Int32 := bts (fun p => decide (T.1 0 p = 1) && fitg T.1 T.2.2.2.1 T.2.2.2.2 (fll T.1 p)) 15 1 (nI 0)
def les (v : vw) (g : Int32) (s n : Nat) : Nat := min (cnt (fun p => hb g p && wbe v s n (fll v p)) 15 1) (cnt (fun p => hb g p && !(wbe v s n (fll v p))) 15 1)
def lk1 (v : vw) (g : Int32) (s : Nat) : Nat → Nat → Int32 → Nat → Int32 × Nat
  | 0, _, b, t => (b, t)
  | k + 1, u, b, t => if t < les v g s u then lk1 v g s k (u + 1) (nI (100 * s + u)) (les v g s u) else lk1 v g s k (u + 1) b t
def lk0 (v : vw) (g : Int32) : Nat → Nat → Int32 → Nat → Int32 × Nat
  | 0, _, b, t => (b, t)
  | k + 1, s, b, t => lk0 v g k (s + 1) (lk1 v g s 20 1 b t).1 (lk1 v g s 20 1 b t).2
def qLook (T : ta) (a : Int32) : Nat × Int32 := if cl a 2 < 2 then (0, if cl a 2 = 0 then (lk0 T.1 (fitb T) (T.1 10 0) 0 nm1 0).1 else nI (lk0 T.1 (fitb T) (T.1 10 0) 0 nm1 0).2) else (1, nI 0)
/-! the reference's answers -/
def SEq (s s' : ms) : Prop := (∀ j, j < 595 → s' 2 j = s 2 j) ∧ ∀ k, k ≠ 1 → k ≠ 2 → k ≠ 17 → k ≠ 20 → k ≠ 21 → k ≠ 26 → s' k = s k
theorem SEq_id (s : ms) : SEq s s := ⟨fun _ _ => rfl, fun _ _ _ _ _ _ _ => rfl⟩
theorem SEq.tr {a b c : ms} (h1 : SEq a b) (h2 : SEq b c) : SEq a c := ⟨fun j hj => (h2.1 j hj).trans (h1.1 j hj), fun k e1 e2 e3 e4 e5 e6 => (h2.2 k e1 e2 e3 e4 e5 e6).trans (h1.2 k e1 e2 e3 e4 e5 e6)⟩
theorem SEq_sw (s : ms) (k : Nat) (r : Nat → Int32) (hk : k = 1 ∨ k = 17 ∨ k = 20 ∨ k = 21 ∨ k = 26) : SEq s (sw s k r) := ⟨fun j hj => by rw [sw_ne _ _ _ _ (by omega)], fun a e1 e2 e3 e4 e5 e6 => sw_ne _ _ _ _ (by omega)⟩
def rA (h : jh) (m : Nat) (s : ms) (o : Option (Int32 × jh)) (a : Nat × Int32) : Prop := ∃ s', o = some (a.2, pm h m s') ∧ s' 1 0 = nI a.1 ∧ SEq s s'
theorem ra_in {h : jh} {m : Nat} {s : ms} {K : jh → Option (Int32 × jh)} {a : Nat × Int32} (k : ∀ s1, s1 1 0 = nI 0 → s1 2 = s 2 → (∀ k, k ≠ 1 → s1 k = s k) → rA h m s1 (K (pm h m s1)) a) : rA h m s (pV (pm h m s) m 11 1 (.int (0)) K) a := by
  rw [pm_pV1, st2_sw]
  obtain ⟨s', e1, e2, e3⟩ := k (sw s 1 (upd (s 1) 0 0)) (by rw [sw_eq]; exact if_pos rfl) (sw_ne _ _ _ _ (by decide)) (fun k hk => sw_ne _ _ _ _ hk)
  exact ⟨s', e1, e2, (SEq_sw s 1 _ (Or.inl rfl)).tr e3⟩
theorem ra_ok {h : jh} {m : Nat} {s : ms} (h0 : s 1 0 = nI 0) (x : Int32) : rA h m s (some (x, pm h m s)) (0, x) := ⟨s, rfl, h0, SEq_id s⟩
theorem ra_sw {h : jh} {m : Nat} {s : ms} (h0 : s 1 0 = nI 0) (x : Int32) (k : Nat) (r : Nat → Int32) (hk : k = 17 ∨ k = 20 ∨ k = 21 ∨ k = 26) : rA h m s (some (x, pm h m (sw s k r))) (0, x) := ⟨_, rfl, by rw [sw_ne _ _ _ _ (by omega)]; exact h0, SEq_sw s k r (by omega)⟩
theorem ra_fail {h : jh} {m : Nat} {s : ms} (k : Nat) : rA h m s (cV (pm h m s) m 11 (f_X13_fail m (nI k) (pm h m s)) fun a b => some (a, b)) (k, nI 0) := by
  unfold f_X13_fail
  rw [pm_cV, pm_pV1, st2_sw, bd_some]
  exact ⟨_, rfl, by rw [sw_eq]; exact if_pos rfl, SEq_sw s 1 _ (Or.inl rfl)⟩
theorem ra_tr {h : jh} {m : Nat} {s s1 : ms} {o : Option (Int32 × jh)} {a : Nat × Int32} (e : SEq s s1) (k : rA h m s1 o a) : rA h m s o a := by
  obtain ⟨s', e1, e2, e3⟩ := k
  exact ⟨s', e1, e2, e.tr e3⟩
/-! its small questions of any number -/
theorem t_isP {h : jh} {m : Nat} {s : ms} {v : vw} (R : RowV (s 2) v) (W : WFv v) (x : Int32) : f_X13_isThere m x (pm h m s) = some (bn (isP v x), pm h m s) := by
  rcases i_cases x 16 (by decide) with ⟨p, hp, rfl⟩ | ho
  · rw [t_there R W p hp]
    unfold isP
    rw [cl_in hp (by decide)]
    simp [hp]
  · rw [t_there' _ ho]
    unfold isP
    rw [cl_out ho]
    rfl
theorem t_isS0 {h : jh} {m : Nat} {s : ms} {v : vw} (R : RowV (s 2) v) (W : WFv v) (x : Int32) : f_X13_isSpace m (nI 0) x (pm h m s) = some (bn (isS v 10 x), pm h m s) := by
  rcases i_cases x 8 (by decide) with ⟨p, hp, rfl⟩ | ho
  · rw [t_isSpace0 R W 0 (by decide) p (by omega)]
    unfold isS
    rw [cl_in hp (by decide)]
  · rw [t_isSpace1 R W 0 (by decide) x ho]
    have hc := W.c0
    unfold isS
    rw [cl_out ho, show decide (8 < v 10 0) = false from decide_eq_false (by omega)]
theorem t_isS1 {h : jh} {m : Nat} {s : ms} {v : vw} (R : RowV (s 2) v) (W : WFv v) (x : Int32) : f_X13_isSpace m (nI 1) x (pm h m s) = some (bn (isS v 11 x), pm h m s) := by
  rcases i_cases x 8 (by decide) with ⟨p, hp, rfl⟩ | ho
  · rw [t_isSpace0 R W 1 (by decide) p (by omega)]
    unfold isS
    rw [cl_in hp (by decide)]
  · rw [t_isSpace1 R W 1 (by decide) x ho]
    have hc := W.c1
    unfold isS
    rw [cl_out ho, show decide (8 < v 11 0) = false from decide_eq_false (by omega)]
theorem t_isS2 {h : jh} {m : Nat} {s : ms} {v : vw} (R : RowV (s 2) v) (W : WFv v) (x : Int32) : f_X13_isSpace m (nI 2) x (pm h m s) = some (bn (isS v 12 x), pm h m s) := by
  rcases i_cases x 8 (by decide) with ⟨p, hp, rfl⟩ | ho
  · rw [t_isSpace0 R W 2 (by decide) p (by omega)]
    unfold isS
    rw [cl_in hp (by decide)]
  · rw [t_isSpace1 R W 2 (by decide) x ho]
    have hc := W.c2
    unfold isS
    rw [cl_out ho, show decide (8 < v 12 0) = false from decide_eq_false (by omega)]
theorem or_0 (a : Int32) : a ||| nI 0 = a := by
  apply hb_ext
  intro i hi
  rw [hb_or, hb_0, Bool.or_false]
theorem shl_0 (i : Nat) (hi : i < 32) : nI 0 <<< (nI i &&& nI 31) = nI 0 := by
  have : ∀ i : Fin 32, nI 0 <<< (nI i.1 &&& nI 31) = nI 0 := by decide
  exact this ⟨i, hi⟩
theorem t_thereB_l {h : jh} {m : Nat} {s : ms} {v : vw} (R : RowV (s 2) v) (W : WFv v) (L : Nat → Nat → Int32 → Int32 → jh → Option (Int32 × jh)) (hL : ∀ f, L (f + 1) = f_X13_thereBits_h4 (fun y5 h4 => some (y5, h4)) (L f)) : ∀ k i a f, i + k = 16 → k + 1 ≤ f → L f m a (nI i) (pm h m s) = some (bts (fun p => decide (v 0 p = 1)) k i a, pm h m s) := by
  intro k
  induction k with
  | zero =>
    intro i a f hi hf
    obtain ⟨f, rfl⟩ : ∃ g, f = g + 1 := ⟨f - 1, by omega⟩
    rw [hL]
    unfold f_X13_thereBits_h4
    simp (discharger := omega) only [↓al_m, al_lit, al_add, al_mul, bd_some, pm_cV, pm_gR2, bn_0, bn_1, bn_jz, al_le]
    rw [if_pos (by omega), bts]
  | succ k ih =>
    intro i a f hi hf
    obtain ⟨f, rfl⟩ : ∃ g, f = g + 1 := ⟨f - 1, by omega⟩
    rw [hL]
    unfold f_X13_thereBits_h4
    have h1 := W.th i (by omega)
    simp (discharger := omega) only [↓al_m, al_lit, al_add, al_mul, bd_some, pm_cV, pm_gR2, bn_0, bn_1, bn_jz, v_of R, v_nm R, v_ct0 R, v_ct1 R, v_ct2 R, v_ar0 R W, v_ar1 R W, v_ar2 R W, v_dp0 R W, v_dp1 R W, v_dp2 R W, v_kp0 R W, v_kp1 R W, v_kp2 R W, v_gv R W, v_bg R W, v_rn R W, v_sh R W, al_le]
    rw [if_neg (by omega), bts, ih _ _ f (by omega) (by omega)]
    by_cases h2 : v 0 i = 1
    · rw [h2, bI_eq]; simp
    · have h3 : v 0 i = 0 := by omega
      rw [h3, shl_0 i (by omega), or_0]; simp
theorem t_thereB {h : jh} {m : Nat} {s : ms} {v : vw} (R : RowV (s 2) v) (W : WFv v) : f_X13_thereBits m (pm h m s) = some (thb v, pm h m s) := by
  obtain ⟨f, hf⟩ := jfu_s
  exact t_thereB_l R W _ (fun _ => rfl) 16 0 (nI 0) jfu (by omega) (by omega)
theorem t_powerB_l {h : jh} {m : Nat} {s : ms} {v : vw} (R : RowV (s 2) v) (W : WFv v) (L : Nat → Nat → Int32 → Int32 → jh → Option (Int32 × jh)) (hL : ∀ f, L (f + 1) = f_X13_powerBits_h4 (fun y8 h7 => some (y8, h7)) (L f)) : ∀ k i a f, i + k = 16 → k + 1 ≤ f → L f m a (nI i) (pm h m s) = some (bts (fun p => decide (v 0 p = 1 ∧ v 7 p = 1)) k i a, pm h m s) := by
  intro k
  induction k with
  | zero =>
    intro i a f hi hf
    obtain ⟨f, rfl⟩ : ∃ g, f = g + 1 := ⟨f - 1, by omega⟩
    rw [hL]
    unfold f_X13_powerBits_h4
    simp (discharger := omega) only [↓al_m, al_lit, al_add, al_mul, bd_some, pm_cV, pm_gR2, bn_0, bn_1, bn_jz, al_le]
    rw [if_pos (by omega), bts]
  | succ k ih =>
    intro i a f hi hf
    obtain ⟨f, rfl⟩ : ∃ g, f = g + 1 := ⟨f - 1, by omega⟩
    rw [hL]
    unfold f_X13_powerBits_h4
    have h1 := W.pr i (by omega)
    simp (discharger := omega) only [↓al_m, al_lit, al_add, al_mul, bd_some, pm_cV, pm_gR2, bn_0, bn_1, bn_jz, v_of R, v_nm R, v_ct0 R, v_ct1 R, v_ct2 R, v_ar0 R W, v_ar1 R W, v_ar2 R W, v_dp0 R W, v_dp1 R W, v_dp2 R W, v_kp0 R W, v_kp1 R W, v_kp2 R W, v_gv R W, v_bg R W, v_rn R W, v_sh R W, al_le, t_there R W, or_0]
    rw [if_neg (by omega), bts, ih _ _ f (by omega) (by omega), ih _ _ f (by omega) (by omega)]
    by_cases h0 : v 0 i = 1
    · by_cases h2 : v 7 i = 1
      · rw [h2, bI_eq]; simp [h0]
      · have h3 : v 7 i = 0 := by omega
        rw [h3, shl_0 i (by omega), or_0]; simp
    · simp [h0]
theorem t_powerB {h : jh} {m : Nat} {s : ms} {v : vw} (R : RowV (s 2) v) (W : WFv v) : f_X13_powerBits m (pm h m s) = some (pwb v, pm h m s) := by
  obtain ⟨f, hf⟩ := jfu_s
  exact t_powerB_l R W _ (fun _ => rfl) 16 0 (nI 0) jfu (by omega) (by omega)
theorem t_deadB_l {h : jh} {m : Nat} {s : ms} {v : vw} (R : RowV (s 2) v) (W : WFv v) (L : Nat → Nat → Int32 → Int32 → jh → Option (Int32 × jh)) (hL : ∀ f, L (f + 1) = f_X13_deadBits_h4 (fun y8 h7 => some (y8, h7)) (L f)) : ∀ k i a f, i + k = v 10 0 → k + 1 ≤ f → L f m a (nI i) (pm h m s) = some (bts (fun s => decide (v 51 s = 1)) k i a, pm h m s) := by
  have hc := W.c0
  intro k
  induction k with
  | zero =>
    intro i a f hi hf
    obtain ⟨f, rfl⟩ : ∃ g, f = g + 1 := ⟨f - 1, by omega⟩
    rw [hL]
    unfold f_X13_deadBits_h4
    simp (discharger := omega) only [↓al_m, al_lit, al_add, al_mul, bd_some, pm_cV, pm_gR2, bn_0, bn_1, bn_jz, v_of R, v_nm R, v_ct0 R, v_ct1 R, v_ct2 R, v_ar0 R W, v_ar1 R W, v_ar2 R W, v_dp0 R W, v_dp1 R W, v_dp2 R W, v_kp0 R W, v_kp1 R W, v_kp2 R W, v_gv R W, v_bg R W, v_rn R W, v_sh R W, al_le]
    rw [if_pos (by omega), bts]
  | succ k ih =>
    intro i a f hi hf
    obtain ⟨f, rfl⟩ : ∃ g, f = g + 1 := ⟨f - 1, by omega⟩
    rw [hL]
    unfold f_X13_deadBits_h4
    simp (discharger := omega) only [↓al_m, al_lit, al_add, al_mul, bd_some, pm_cV, pm_gR2, bn_0, bn_1, bn_jz, v_of R, v_nm R, v_ct0 R, v_ct1 R, v_ct2 R, v_ar0 R W, v_ar1 R W, v_ar2 R W, v_dp0 R W, v_dp1 R W, v_dp2 R W, v_kp0 R W, v_kp1 R W, v_kp2 R W, v_gv R W, v_bg R W, v_rn R W, v_sh R W, al_le, t_isDead R W, or_0, bI_eq]
    rw [if_neg (by omega), bts, ih _ _ f (by omega) (by omega), ih _ _ f (by omega) (by omega)]
    by_cases h0 : v 51 i = 1 <;> simp [h0]
theorem t_deadB {h : jh} {m : Nat} {s : ms} {v : vw} (R : RowV (s 2) v) (W : WFv v) : f_X13_deadBits m (pm h m s) = some (ddb v, pm h m s) := by
  have hc := W.c0
  obtain ⟨f, hf⟩ := jfu_s
  exact t_deadB_l R W _ (fun _ => rfl) (v 10 0) 0 (nI 0) jfu (by omega) (by omega)
theorem t_inSp_l {h : jh} {m : Nat} {s : ms} {v : vw} (R : RowV (s 2) v) (W : WFv v) (kd x : Nat) (hk : kd < 3) (hx : x < 8) (L : Nat → Nat → Int32 → Int32 → Int32 → Int32 → jh → Option (Int32 × jh)) (hL : ∀ f, L (f + 1) = f_X13_inSpace_h5 (fun y11 h10 => some (y11, h10)) (L f)) : ∀ k i a f, i + k = 16 → k + 1 ≤ f → L f m (nI kd) (nI x) (nI a) (nI i) (pm h m s) = some (nI (a + cnt (fun p => decide (v 0 p = 1 ∧ v (2 + kd) p = x)) k i), pm h m s) := by
  have hc := W.c0
  have hc1 := W.c1
  have hc2 := W.c2
  intro k
  induction k with
  | zero =>
    intro i a f hi hf
    obtain ⟨f, rfl⟩ : ∃ g, f = g + 1 := ⟨f - 1, by omega⟩
    rw [hL]
    unfold f_X13_inSpace_h5
    simp (discharger := omega) only [↓al_m, al_lit, al_add, al_mul, bd_some, pm_cV, pm_gR2, bn_0, bn_1, bn_jz, al_le]
    rw [if_pos (by omega), cnt, Nat.add_zero]
  | succ k ih =>
    intro i a f hi hf
    obtain ⟨f, rfl⟩ : ∃ g, f = g + 1 := ⟨f - 1, by omega⟩
    rw [hL]
    unfold f_X13_inSpace_h5 f_X13_inSpace_b43
    have h1 := W.pr i (by omega)
    have e : kd = 0 ∨ kd = 1 ∨ kd = 2 := by omega
    rw [cnt]
    rcases e with rfl | rfl | rfl
    · simp (discharger := omega) only [↓al_m, al_lit, al_add, al_mul, bd_some, pm_cV, pm_gR2, bn_0, bn_1, bn_jz, v_of R, v_nm R, v_ct0 R, v_ct1 R, v_ct2 R, v_ar0 R W, v_ar1 R W, v_ar2 R W, v_dp0 R W, v_dp1 R W, v_dp2 R W, v_kp0 R W, v_kp1 R W, v_kp2 R W, v_gv R W, v_bg R W, v_rn R W, v_sh R W, al_le, al_eq, t_there R W, Nat.add_zero, not_true_eq_false, if_false]
      rw [if_neg (by omega), ih _ _ f (by omega) (by omega), ih _ _ f (by omega) (by omega)]
      by_cases h0 : v 0 i = 1 <;> by_cases h2 : v 2 i = x <;> simp [h0, h2, Nat.add_assoc]
    · simp (discharger := omega) only [↓al_m, al_lit, al_add, al_mul, bd_some, pm_cV, pm_gR2, bn_0, bn_1, bn_jz, v_of R, v_nm R, v_ct0 R, v_ct1 R, v_ct2 R, v_ar0 R W, v_ar1 R W, v_ar2 R W, v_dp0 R W, v_dp1 R W, v_dp2 R W, v_kp0 R W, v_kp1 R W, v_kp2 R W, v_gv R W, v_bg R W, v_rn R W, v_sh R W, al_le, al_eq, t_there R W, Nat.add_zero, not_true_eq_false, not_false_eq_true, if_false, if_true, Nat.one_ne_zero]
      rw [if_neg (by omega), ih _ _ f (by omega) (by omega), ih _ _ f (by omega) (by omega)]
      by_cases h0 : v 0 i = 1 <;> by_cases h2 : v 3 i = x <;> simp [h0, h2, Nat.add_assoc]
    · simp (discharger := omega) only [↓al_m, al_lit, al_add, al_mul, bd_some, pm_cV, pm_gR2, bn_0, bn_1, bn_jz, v_of R, v_nm R, v_ct0 R, v_ct1 R, v_ct2 R, v_ar0 R W, v_ar1 R W, v_ar2 R W, v_dp0 R W, v_dp1 R W, v_dp2 R W, v_kp0 R W, v_kp1 R W, v_kp2 R W, v_gv R W, v_bg R W, v_rn R W, v_sh R W, al_le, al_eq, t_there R W, Nat.add_zero, not_true_eq_false, not_false_eq_true, if_false, if_true, Nat.reduceEqDiff]
      rw [if_neg (by omega), ih _ _ f (by omega) (by omega), ih _ _ f (by omega) (by omega)]
      by_cases h0 : v 0 i = 1 <;> by_cases h2 : v 4 i = x <;> simp [h0, h2, Nat.add_assoc]
theorem t_inSp {h : jh} {m : Nat} {s : ms} {v : vw} (R : RowV (s 2) v) (W : WFv v) (kd x : Nat) (hk : kd < 3) (hx : x < 8) : f_X13_inSpace m (nI kd) (nI x) (pm h m s) = some (nI (hmi v kd x), pm h m s) := by
  obtain ⟨f, hf⟩ := jfu_s
  have := t_inSp_l (h := h) (m := m) R W kd x hk hx (jlp5 (f_X13_inSpace_h5 (fun y11 h10 => some (y11, h10)))) (fun _ => rfl) 16 0 0 jfu (by omega) (by omega)
  rw [Nat.zero_add] at this
  exact this
theorem t_things_l {h : jh} {m : Nat} {s : ms} {v : vw} (R : RowV (s 2) v) (W : WFv v) (x : Nat) (hx : x < v 12 0) (L : Nat → Nat → Int32 → Int32 → Int32 → jh → Option (Int32 × jh)) (hL : ∀ f, L (f + 1) = f_X13_things_h4 (fun y6 h5 => some (y6, h5)) (L f)) : ∀ k i a f, i + k = 8 → k + 1 ≤ f → L f m (nI x) (nI a) (nI i) (pm h m s) = some (nI (a + cnt (fun i => decide (v 71 (8 * x + i) ≠ 0)) k i), pm h m s) := by
  have hc := W.c2
  intro k
  induction k with
  | zero =>
    intro i a f hi hf
    obtain ⟨f, rfl⟩ : ∃ g, f = g + 1 := ⟨f - 1, by omega⟩
    rw [hL]
    unfold f_X13_things_h4
    simp (discharger := omega) only [↓al_m, al_lit, al_add, al_mul, bd_some, pm_cV, pm_gR2, bn_0, bn_1, bn_jz, al_le]
    rw [if_pos (by omega), cnt, Nat.add_zero]
  | succ k ih =>
    intro i a f hi hf
    obtain ⟨f, rfl⟩ : ∃ g, f = g + 1 := ⟨f - 1, by omega⟩
    rw [hL]
    unfold f_X13_things_h4
    have h1 := W.tg x i hx (by omega)
    have e := v_tg (h := h) (m := m) R W x i hx (by omega)
    simp (discharger := omega) only [↓al_m, al_lit, al_add, al_mul, bd_some, pm_cV, pm_gR2, bn_0, bn_1, bn_jz, e, al_le, Nat.add_zero]
    rw [if_neg (by omega), cnt, ih _ _ f (by omega) (by omega), ih _ _ f (by omega) (by omega)]
    by_cases h0 : v 71 (8 * x + i) = 0 <;> simp [h0, Nat.add_assoc]
theorem t_things {h : jh} {m : Nat} {s : ms} {v : vw} (R : RowV (s 2) v) (W : WFv v) (x : Nat) (hx : x < v 12 0) : f_X13_things m (nI x) (pm h m s) = some (nI (piu v x), pm h m s) := by
  obtain ⟨f, hf⟩ := jfu_s
  have := t_things_l (h := h) (m := m) R W x hx (jlp4 (f_X13_things_h4 (fun y6 h5 => some (y6, h5)))) (fun _ => rfl) 8 0 0 jfu (by omega) (by omega)
  rw [Nat.zero_add] at this
  exact this
theorem t_reach_l {h : jh} {m : Nat} {s : ms} {v : vw} (R : RowV (s 2) v) (W : WFv v) (p : Nat) (hp : p < 16) (L : Nat → Nat → Int32 → Int32 → Int32 → jh → Option (Int32 × jh)) (hL : ∀ f, L (f + 1) = f_X13_reach_h4 (fun y9 h8 => some (y9, h8)) (L f)) : ∀ k i a f, i + k = 16 → k + 1 ≤ f → L f m (nI p) a (nI i) (pm h m s) = some (bts (fun q => decide (v 0 q = 1) && cnkV v p q) k i a, pm h m s) := by
  intro k
  induction k with
  | zero =>
    intro i a f hi hf
    obtain ⟨f, rfl⟩ : ∃ g, f = g + 1 := ⟨f - 1, by omega⟩
    rw [hL]
    unfold f_X13_reach_h4
    simp (discharger := omega) only [↓al_m, al_lit, al_add, al_mul, bd_some, pm_cV, pm_gR2, bn_0, bn_1, bn_jz, al_le]
    rw [if_pos (by omega), bts]
  | succ k ih =>
    intro i a f hi hf
    obtain ⟨f, rfl⟩ : ∃ g, f = g + 1 := ⟨f - 1, by omega⟩
    rw [hL]
    unfold f_X13_reach_h4
    simp (discharger := omega) only [↓al_m, al_lit, al_add, al_mul, bd_some, pm_cV, pm_gR2, bn_0, bn_1, bn_jz, al_le, t_there R W, t_canKill R W, or_0, bI_eq]
    rw [if_neg (by omega), bts, ih _ _ f (by omega) (by omega), ih _ _ f (by omega) (by omega)]
    by_cases h0 : v 0 i = 1 <;> cases cnkV v p i <;> simp [h0]
theorem t_reach {h : jh} {m : Nat} {s : ms} {v : vw} (R : RowV (s 2) v) (W : WFv v) (p : Nat) (hp : p < 16) : f_X13_reach m (nI p) (pm h m s) = some (rch v p, pm h m s) := by
  obtain ⟨f, hf⟩ := jfu_s
  exact t_reach_l R W p hp _ (fun _ => rfl) 16 0 (nI 0) jfu (by omega) (by omega)
theorem t_shared_l {h : jh} {m : Nat} {v : vw} (W : WFv v) (x y : Nat) (hx : x < v 11 0) (hy : y < v 11 0) (L : Nat → Nat → Int32 → Int32 → Int32 → Int32 → jh → Option (Int32 × jh)) (hL : ∀ f, L (f + 1) = f_X13_shared_h34 (fun y18 h17 => some (y18, h17)) (L f)) : ∀ k i a f (s : ms), RowV (s 2) v → i + k = 100 → k + 1 ≤ f → ∃ w, L f m (nI x) (nI y) (nI a) (nI i) (pm h m s) = some (nI (a + cnt (fun id => decide (iwl v (ch v 1 x) id ≠ 65534 ∧ iwl v (ch v 1 y) id ≠ 65534)) k i), pm h m (sw s 17 w)) := by
  intro k
  induction k with
  | zero =>
    intro i a f s R hi hf
    obtain ⟨f, rfl⟩ : ∃ g, f = g + 1 := ⟨f - 1, by omega⟩
    refine ⟨s 17, ?_⟩
    rw [hL, sw_id]
    unfold f_X13_shared_h34
    simp (discharger := omega) only [↓al_m, al_lit, al_add, al_mul, bd_some, pm_cV, pm_gR2, bn_0, bn_1, bn_jz, al_le]
    rw [if_pos (by omega), cnt, Nat.add_zero]
  | succ k ih =>
    intro i a f s R hi hf
    obtain ⟨f, rfl⟩ : ∃ g, f = g + 1 := ⟨f - 1, by omega⟩
    have b1 := iwl_lt W x hx i (by omega)
    have b2 := iwl_lt W y hy i (by omega)
    obtain ⟨w1, e1⟩ := t_fromRoot (h := h) (m := m) R W x i hx (by omega)
    have R1 : RowV ((sw s 17 w1) 2) v := by rw [sw_ne _ _ _ _ (by decide)]; exact R
    obtain ⟨w2, e2⟩ := t_fromRoot (h := h) (m := m) R1 W y i hy (by omega)
    rw [sw_sw] at e2
    have R2 : RowV ((sw s 17 w2) 2) v := by rw [sw_ne _ _ _ _ (by decide)]; exact R
    rw [hL]
    unfold f_X13_shared_h34
    simp (discharger := omega) only [↓al_m, al_lit, al_add, al_mul, bd_some, pm_cV, pm_gR2, bn_0, bn_1, bn_jz, al_le, al_eq, e1, e2, Nat.add_zero]
    rw [if_neg (by omega), cnt]
    by_cases h1 : iwl v (ch v 1 x) i = 65534
    · obtain ⟨w, e⟩ := ih (i + 1) a f _ R1 (by omega) (by omega)
      rw [sw_sw] at e
      exact ⟨w, by rw [if_pos h1, e]; simp [h1]⟩
    · rw [if_neg h1]
      by_cases h2 : iwl v (ch v 1 y) i = 65534
      · obtain ⟨w, e⟩ := ih (i + 1) a f _ R2 (by omega) (by omega)
        rw [sw_sw] at e
        exact ⟨w, by rw [if_pos h2, e]; simp [h2]⟩
      · obtain ⟨w, e⟩ := ih (i + 1) (a + 1) f _ R2 (by omega) (by omega)
        rw [sw_sw] at e
        exact ⟨w, by rw [if_neg h2, e]; simp [h1, h2, Nat.add_assoc]⟩
theorem t_listed_l {h : jh} {m : Nat} {s : ms} {v : vw} (R : RowV (s 2) v) (W : WFv v) (h0 : s 1 0 = nI 0) (x : Nat) (y : Int32) (hx : x < v 10 0) (L : Nat → Nat → Int32 → Int32 → Int32 → Int32 → jh → Option (Int32 × jh)) (hL : ∀ f, L (f + 1) = f_X13_listed_h25 (fun y11 y12 y13 h10 => (if ¬ y12 = (-1) then cV h10 y11 11 (f_X13_fail y11 1 h10) fun v15 h16 => some (v15, h16) else some (y13, h10))) (L f)) : ∀ k i a f, i + k = 21 → k + 1 ≤ f → rA h m s (L f m (nI x) y (nI a) (nI i) (pm h m s)) (lst v x y k i a) := by
  have hc := W.c0
  intro k
  induction k with
  | zero =>
    intro i a f hi hf
    obtain ⟨f, rfl⟩ : ∃ g, f = g + 1 := ⟨f - 1, by omega⟩
    rw [hL]
    unfold f_X13_listed_h25
    rw [if_pos (show (20 : Int32) < nI i by rw [show (20 : Int32) = nI 20 from rfl, al_lt (by omega) (by omega)]; omega), lst]
    dsimp only
    by_cases h1 : y = nm1
    · rw [if_neg (not_not_intro (show y = -1 from h1)), if_pos h1]; exact ra_ok h0 _
    · rw [if_pos (show ¬ y = -1 from h1), if_neg h1]; exact ra_fail 1
  | succ k ih =>
    intro i a f hi hf
    obtain ⟨f, rfl⟩ : ∃ g, f = g + 1 := ⟨f - 1, by omega⟩
    rw [hL]
    unfold f_X13_listed_h25
    have hw := who_le v x i
    rw [if_neg (show ¬ (20 : Int32) < nI i by rw [show (20 : Int32) = nI 20 from rfl, al_lt (by omega) (by omega)]; omega), pm_cV, t_whose R W x i (by omega) (by omega), bd_some, lst]
    by_cases h1 : who v x i = 16
    · rw [if_neg (show ¬ ¬ on 16 (who v x i) = (-1 : Int32) from not_not_intro (if_pos h1)), if_pos h1, show nI i + 1 = nI (i + 1) from al_add i 1]
      exact ih (i + 1) a f (by omega) (by omega)
    · have e1 : on 16 (who v x i) = nI (who v x i) := if_neg h1
      rw [if_pos (show ¬ on 16 (who v x i) = (-1 : Int32) by rw [e1, show (-1 : Int32) = nm1 from rfl, nm1_ne (by omega)]; exact id), if_neg h1]
      by_cases h2 : nI a = y
      · rw [if_neg (not_not_intro h2), if_pos h2, e1]; exact ra_ok h0 _
      · rw [if_pos h2, if_neg h2, show nI i + 1 = nI (i + 1) from al_add i 1, show nI a + 1 = nI (a + 1) from al_add a 1]
        exact ih (i + 1) (a + 1) f (by omega) (by omega)
