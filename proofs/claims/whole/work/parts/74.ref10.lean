/-! the reference's deeds: fork, map -/
theorem d_fork {h : jh} {m : Nat} {s : ms} {v : vw} (R : RowV (s 2) v) (W : WFv v) (M : SMv v) (p : Nat) (hp : p < 16) (hp1 : v 0 p = 1) : RD h m s (f_X13_forkNow m (nI p) (pm h m s)) (dFrk v p) := by
  have hc8 := W.c0
  have hq := W.pr p hp
  have hx : v 5 p < v 10 0 := hq.2.2.2.2.1
  obtain ⟨f, hf⟩ := jfu_s
  have hcl := (ff_le (fun q => decide (v 0 q ≠ 1)) 16 0).2
  unfold f_X13_forkNow dFrk
  rw [pm_cV, show f_X13_of m (nI p) 5 (pm h m s) = _ from v_of R p 5 hp (by decide), bd_some]
  refine Eq.subst (motive := fun o => RD h m s o _) (t_fk0 R W (nI p) (nI (v 5 p)) (fun y8 y9 y10 y11 h7 => f_X13_forkNow_b31 y8 y9 y10 y11 h7) (jlp4 (f_X13_forkNow_h9 (fun y8 y9 y10 y11 h7 => f_X13_forkNow_b31 y8 y9 y10 y11 h7))) (fun _ => rfl) 16 0 jfu (by omega) (by omega)).symm ?_
  show RD h m s (f_X13_forkNow_b31 m (nI p) (nI (v 5 p)) (nI (fkc v)) (pm h m s)) _
  have hcl' : fkc v ≤ 16 := by unfold fkc; omega
  unfold f_X13_forkNow_b31
  by_cases h16 : fkc v < 16
  · have hn : ¬ (16 : Int32) ≤ nI (fkc v) := by
      rw [show (16 : Int32) = nI 16 from rfl, al_le (by omega) (by omega)]; omega
    rw [if_neg hn, pm_cV, t_isDead R W _ hx, bd_some]
    by_cases hd : v 51 (v 5 p) = 1
    · rw [if_pos (show ¬ bn (decide (v 51 (v 5 p) = 1)) = 0 by rw [decide_eq_true hd]; decide)]
      rw [if_neg (fun e => e.2.1 hd)]
      refine Eq.subst (motive := fun o => RD h m s o _) (t_fk1 R W (v 5 p) (nI p) (nI (fkc v)) hx _ (jlp6 (f_X13_forkNow_h55 _)) (fun _ => rfl) (v 5 p) hx false jfu (by omega)).symm ?_
      exact RD_no R
    · rw [if_neg (show ¬ ¬ bn (decide (v 51 (v 5 p) = 1)) = 0 by rw [decide_eq_false hd]; decide)]
      refine Eq.subst (motive := fun o => RD h m s o _) (t_fk1 R W (v 5 p) (nI p) (nI (fkc v)) hx _ (jlp6 (f_X13_forkNow_h55 _)) (fun _ => rfl) (v 5 p) hx true jfu (by omega)).symm ?_
      cases hC : fkC v (v 5 p) (ch v 0 (v 5 p))
      · rw [if_neg (show ¬ ¬ bn (true && false) = 0 by decide), if_neg (show ¬ (fkc v < 16 ∧ v 51 (v 5 p) ≠ 1 ∧ false = true) by simp)]
        exact RD_no R
      · rw [if_pos (show ¬ bn (true && true) = 0 by decide), if_pos ⟨h16, hd, rfl⟩]
        have hc0 : v 0 (fkc v) ≠ 1 := by
          have := ff_P (fun q => decide (v 0 q ≠ 1)) 16 0 (by have := h16; unfold fkc at this; omega)
          exact of_decide_eq_true this
        obtain ⟨n', R', E⟩ := t_fk5 (h := h) (m := m) R W M p (fkc v) hp hp1 h16 hc0
        exact ⟨_, E, SB_2 _ _, by rw [sw_eq]; exact R'⟩
  · have hn : (16 : Int32) ≤ nI (fkc v) := by
      rw [show (16 : Int32) = nI 16 from rfl, al_le (by omega) (by omega)]; omega
    rw [if_pos hn, if_neg (fun e => h16 e.1)]
    refine Eq.subst (motive := fun o => RD h m s o _) (t_fk1 R W (v 5 p) (nI p) (nI (fkc v)) hx _ (jlp6 (f_X13_forkNow_h55 _)) (fun _ => rfl) (v 5 p) hx false jfu (by omega)).symm ?_
    exact RD_no R
/-- map -/
theorem t_isSpace0 {h : jh} {m : Nat} {s : ms} {v : vw} (R : RowV (s 2) v) (W : WFv v) (k : Nat) (hk : k < 3) (x : Nat) (hx : x < 2147483648) : f_X13_isSpace m (nI k) (nI x) (pm h m s) = some (bn (decide (x < v (10 + k) 0)), pm h m s) := by
  have hc := W.ct k hk
  unfold f_X13_isSpace
  rw [pm_cV, r_many k hk, R.ct k hk, bd_some, r_isIn, bd_some, bn_jz, show (1 : Int32) = nI 1 from rfl, al_sub hc.1, show (0 : Int32) = nI 0 from rfl]
  simp (discharger := omega) only [al_le]
  congr 3
  apply decide_eq_decide.mpr
  omega
theorem t_isSpace1 {h : jh} {m : Nat} {s : ms} {v : vw} (R : RowV (s 2) v) (W : WFv v) (k : Nat) (hk : k < 3) (x : Int32) (hx : x < 0 ∨ nI 8 ≤ x) : f_X13_isSpace m (nI k) x (pm h m s) = some (bn false, pm h m s) := by
  have hc := W.ct k hk
  unfold f_X13_isSpace
  rw [pm_cV, r_many k hk, R.ct k hk, bd_some, r_isIn, bd_some, bn_jz, show (1 : Int32) = nI 1 from rfl, al_sub hc.1]
  have : decide (0 ≤ x ∧ x ≤ nI (v (10 + k) 0 - 1)) = false := by
    apply decide_eq_false
    rintro ⟨h1, h2⟩
    rcases hx with h3 | h3
    · exact absurd h3 (Int32.not_lt.mpr h1)
    · have := Int32.le_trans h3 h2
      rw [al_le (by omega) (by omega)] at this
      omega
  rw [this]
def aprt (v : vw) (x i o n : Nat) : Nat → Nat → Bool
  | 0, _ => true
  | k + 1, r => (decide (i + n ≤ v 61 (3 * x + r) ∨ v 61 (3 * x + r) + v 63 (3 * x + r) ≤ i) && decide (o + n ≤ v 62 (3 * x + r) ∨ v 62 (3 * x + r) + v 63 (3 * x + r) ≤ o)) && aprt v x i o n k (r + 1)
theorem r_apart (a b m n : Nat) (h : jh) (h1 : a + m < 2147483648) (h2 : b + n < 2147483648) : f_X13_areApart (nI a) (nI b) (nI m) (nI n) h = some (bn (decide (a + m ≤ b ∨ b + n ≤ a)), h) := by
  unfold f_X13_areApart
  simp (discharger := omega) only [al_add, al_le, al_lt]
  by_cases h3 : a + m ≤ b
  · simp [h3, bn, al_1]
  · by_cases h4 : a < b + n
    · have : ¬ b + n ≤ a := by omega
      simp [h3, h4, this, bn, al_0]
    · have : b + n ≤ a := by omega
      simp [h3, h4, this, bn, al_1]
theorem t_map1 {h : jh} {m : Nat} {s : ms} {v : vw} (R : RowV (s 2) v) (W : WFv v) (x i o n : Nat) (a1 : Int32) (hx : x < v 11 0) (hi : i < 100) (ho : o < 100) (hn : n < 100) (K : Nat → Int32 → Int32 → Int32 → Int32 → Int32 → jh → Option (Int32 × jh)) (L : Nat → Nat → Int32 → Int32 → Int32 → Int32 → Int32 → Int32 → Int32 → jh → Option (Int32 × jh)) (hL : ∀ f, L (f + 1) = f_X13_canMap_h57 K (L f)) : ∀ k r (b : Bool) f, r + k = v 60 x → k + 1 ≤ f → L f m a1 (nI x) (nI i) (nI o) (nI n) (bn b) (nI r) (pm h m s) = K m a1 (nI x) (nI o) (nI n) (bn (b && aprt v x i o n k r)) (pm h m s) := by
  have hc := W.c1
  have hu := W.uk x hx
  intro k
  induction k with
  | zero =>
    intro r b f hr hf
    obtain ⟨f, rfl⟩ : ∃ g, f = g + 1 := ⟨f - 1, by omega⟩
    rw [hL]
    unfold f_X13_canMap_h57
    simp (discharger := omega) only [↓al_m, al_lit, al_add, al_mul, bd_some, pm_cV, pm_gR2, bn_0, bn_1, bn_jz, v_of R, v_nm R, v_ct0 R, v_ct1 R, v_ct2 R, v_ar0 R W, v_ar1 R W, v_ar2 R W, v_dp0 R W, v_dp1 R W, v_dp2 R W, v_kp0 R W, v_kp1 R W, v_kp2 R W, v_gv R W, v_bg R W, v_rn R W, v_sh R W, al_le]
    rw [if_pos (by omega), aprt, Bool.and_true]
  | succ k ih =>
    intro r b f hr hf
    obtain ⟨f, rfl⟩ : ∃ g, f = g + 1 := ⟨f - 1, by omega⟩
    have hg := W.rg x r hx (by omega)
    have e1 := R.ri x r hx (by omega)
    have e2 := R.ro x r hx (by omega)
    have e3 := R.rm x r hx (by omega)
    have g0 := ih (r + 1) false f (by omega) (by omega)
    have g1 := ih (r + 1) true f (by omega) (by omega)
    have g0' : L f m a1 (nI x) (nI i) (nI o) (nI n) (nI 0) (nI (r + 1)) (pm h m s) = _ := g0
    have g1' : L f m a1 (nI x) (nI i) (nI o) (nI n) (nI 1) (nI (r + 1)) (pm h m s) = _ := g1
    rw [hL]
    unfold f_X13_canMap_h57
    simp (discharger := omega) only [↓al_m, al_lit, al_add, al_mul, bd_some, pm_cV, pm_gR2, bn_0, bn_1, bn_jz, v_of R, v_nm R, v_ct0 R, v_ct1 R, v_ct2 R, v_ar0 R W, v_ar1 R W, v_ar2 R W, v_dp0 R W, v_dp1 R W, v_dp2 R W, v_kp0 R W, v_kp1 R W, v_kp2 R W, v_gv R W, v_bg R W, v_rn R W, v_sh R W, al_le, r_rangeAt, rd2, e1, e2, e3, r_apart, g0', g1']
    rw [if_neg (by omega), aprt]
    generalize decide (i + n ≤ v 61 (3 * x + r) ∨ v 61 (3 * x + r) + v 63 (3 * x + r) ≤ i) = d1
    generalize decide (o + n ≤ v 62 (3 * x + r) ∨ v 62 (3 * x + r) + v 63 (3 * x + r) ≤ o) = d2
    cases b
    · rfl
    · cases d1
      · rfl
      · cases d2 <;> rfl
def knwn (v : vw) (x o : Nat) : Nat → Nat → Bool
  | 0, _ => true
  | k + 1, j => decide (owl v (ch v 1 x) (o + j) ≠ 65534) && knwn v x o k (j + 1)
theorem t_map2 {h : jh} {m : Nat} {s : ms} {v : vw} (R : RowV (s 2) v) (W : WFv v) (x o n : Nat) (a1 a2 : Int32) (hx : x < v 11 0) (ho : o < 100) (hn : n < 100) (K : Nat → Int32 → Int32 → Int32 → Int32 → Int32 → Int32 → jh → Option (Int32 × jh)) (L : Nat → Nat → Int32 → Int32 → Int32 → Int32 → Int32 → Int32 → Int32 → jh → Option (Int32 × jh)) (hL : ∀ f, L (f + 1) = f_X13_canMap_h161 K (L f)) : ∀ k j (b : Bool) f, j + k = n → k + 1 ≤ f → L f m a1 a2 (nI o) (nI n) (bn b) (nI x) (nI j) (pm h m s) = K m a1 a2 (nI o) (nI n) (bn (b && knwn v x o k j)) (nI x) (pm h m s) := by
  have hc := W.c1
  intro k
  induction k with
  | zero =>
    intro j b f hj hf
    obtain ⟨f, rfl⟩ : ∃ g, f = g + 1 := ⟨f - 1, by omega⟩
    rw [hL]
    unfold f_X13_canMap_h161
    simp (discharger := omega) only [↓al_m, al_lit, al_add, al_mul, bd_some, pm_cV, pm_gR2, bn_0, bn_1, bn_jz, al_le]
    rw [if_pos (by omega), knwn, Bool.and_true]
  | succ k ih =>
    intro j b f hj hf
    obtain ⟨f, rfl⟩ : ∃ g, f = g + 1 := ⟨f - 1, by omega⟩
    have g0' : L f m a1 a2 (nI o) (nI n) (nI 0) (nI x) (nI (j + 1)) (pm h m s) = _ := ih (j + 1) false f (by omega) (by omega)
    have g1' : L f m a1 a2 (nI o) (nI n) (nI 1) (nI x) (nI (j + 1)) (pm h m s) = _ := ih (j + 1) true f (by omega) (by omega)
    have hle : owl v (ch v 1 x) (o + j) < 65535 := by
      by_cases h1 : x = 0
      · subst h1; rw [owl_0]; omega
      · have hu := W.up1 x (by omega) hx
        rw [owl_s W x _ (by omega) hx]
        rcases owl_lt W (v 21 x) (by omega) _ (thru_ltOut W x (o + j) hx) with e | e <;> omega
    rw [hL]
    unfold f_X13_canMap_h161
    simp (discharger := omega) only [↓al_m, al_lit, al_add, al_mul, bd_some, pm_cV, pm_gR2, bn_0, bn_1, bn_jz, al_le, al_eq, t_toRoot R W, g0', g1']
    rw [if_neg (by omega), knwn]
    cases b
    · rfl
    · by_cases h1 : owl v (ch v 1 x) (o + j) = 65534 <;> simp [h1]
def cmpV (v : vw) (p x i o n : Nat) : Bool :=
  decide (x < v 11 0 ∧ x ≠ 0 ∧ 1 ≤ n ∧ i + n ≤ 100 ∧ o + n ≤ 100 ∧ v 60 x ≠ 3) && (aprt v x i o n (v 60 x) 0 && knwn v (v 21 x) o n 0) && (ovp v p (v 21 x) || (decide (n = 1 ∧ v 6 p = v 41 x) && decide (iwl v (ch v 1 (v 21 x)) (v 6 p) = o)))
theorem t_map3 {h : jh} {m : Nat} {s : ms} {v : vw} (R : RowV (s 2) v) (W : WFv v) (p x : Nat) (hp : p < 16) (hx : x < v 11 0) (b c : Bool) : f_X13_canMap_b248 m (nI p) (bn b) (nI x) (bn c) (pm h m s) = some (bn (b && (ovp v p x || c)), pm h m s) := by
  unfold f_X13_canMap_b248
  simp (discharger := omega) only [↓al_m, al_lit, al_add, al_mul, bd_some, pm_cV, pm_gR2, bn_0, bn_1, bn_jz, t_isOver R W]
  cases b
  · rfl
  · cases ovp v p x
    · cases c <;> rfl
    · rfl
theorem t_canMap {h : jh} {m : Nat} {s : ms} {v : vw} (R : RowV (s 2) v) (W : WFv v) (p x i o n : Nat) (hp : p < 16) (hx : x < 8) (hi : i < 100) (ho : o < 100) (hn : n < 100) : ∃ w, f_X13_canMap m (nI p) (nI x) (nI i) (nI o) (nI n) (pm h m s) = some (bn (cmpV v p x i o n), pm h m (sw s 17 w)) := by
  have hc := W.c1
  have hq := W.pr p hp
  obtain ⟨f, hf⟩ := jfu_s
  have k0 : (nI x = (0 : Int32)) ↔ x = 0 := iff_of_eq (al_eq (b := 0) (by omega) (by omega))
  have k1 : (nI n < (1 : Int32)) ↔ n < 1 := iff_of_eq (al_lt (b := 1) (by omega) (by omega))
  have k2 : ((100 : Int32) < nI i + nI n) ↔ 100 < i + n := by rw [al_add]; exact iff_of_eq (al_lt (a := 100) (by omega) (by omega))
  have k3 : ((100 : Int32) < nI o + nI n) ↔ 100 < o + n := by rw [al_add]; exact iff_of_eq (al_lt (a := 100) (by omega) (by omega))
  have k4 : x < v 11 0 → ((nI (v 60 x) = (3 : Int32)) ↔ v 60 x = 3) := fun hx => iff_of_eq (al_eq (b := 3) (by have := W.uk x hx; omega) (by omega))
  by_cases h0 : x < v 11 0 ∧ x ≠ 0 ∧ 1 ≤ n ∧ i + n ≤ 100 ∧ o + n ≤ 100 ∧ v 60 x ≠ 3
  · obtain ⟨c1, c2, c3, c4, c5, c6⟩ := h0
    have hu := W.uk x c1
    have hup := W.up1 x (by omega) c1
    have hcm : cmpV v p x i o n = ((aprt v x i o n (v 60 x) 0 && knwn v (v 21 x) o n 0) && (ovp v p (v 21 x) || (decide (n = 1 ∧ v 6 p = v 41 x) && decide (iwl v (ch v 1 (v 21 x)) (v 6 p) = o)))) := by
      unfold cmpV; rw [decide_eq_true ⟨c1, c2, c3, c4, c5, c6⟩, Bool.true_and]
    rw [hcm]
    obtain ⟨w, hw⟩ := t_fromRoot (h := h) (m := m) R W (v 21 x) (v 6 p) (by omega) (by omega)
    have hiw := iwl_lt W (v 21 x) (by omega) (v 6 p) (by omega)
    -- the own id
    have tail : ∀ b, ∃ w, (if ¬ nI n = 1 then f_X13_canMap_b248 m (nI p) (bn b) (nI (v 21 x)) 0 (pm h m s) else
        cV (pm h m s) m 11 (f_X13_of m (nI p) 6 (pm h m s)) fun v59 h60 =>
        cV h60 m 11 (f_X13_spaceOf m 1 (nI x) 2 h60) fun v61 h62 =>
        (if ¬ v59 = v61 then f_X13_canMap_b248 m (nI p) (bn b) (nI (v 21 x)) 0 h62 else
        cV h62 m 11 (f_X13_of m (nI p) 6 h62) fun v64 h65 =>
        cV h65 m 11 (f_X13_fromRoot m (nI (v 21 x)) v64 h65) fun v66 h67 =>
        (if ¬ v66 = nI o then f_X13_canMap_b248 m (nI p) (bn b) (nI (v 21 x)) 0 h67 else f_X13_canMap_b248 m (nI p) (bn b) (nI (v 21 x)) 1 h67))) = some (bn (b && (ovp v p (v 21 x) || (decide (n = 1 ∧ v 6 p = v 41 x) && decide (iwl v (ch v 1 (v 21 x)) (v 6 p) = o)))), pm h m (sw s 17 w)) := by
      intro b
      have t0 : f_X13_canMap_b248 m (nI p) (bn b) (nI (v 21 x)) (nI 0) (pm h m s) = _ := t_map3 R W p (v 21 x) hp (by omega) b false
      have R' : RowV ((sw s 17 w) 2) v := by rw [sw_ne _ _ _ _ (by decide)]; exact R
      have t0' : f_X13_canMap_b248 m (nI p) (bn b) (nI (v 21 x)) (nI 0) (pm h m (sw s 17 w)) = _ := t_map3 R' W p (v 21 x) hp (by omega) b false
      have t1' : f_X13_canMap_b248 m (nI p) (bn b) (nI (v 21 x)) (nI 1) (pm h m (sw s 17 w)) = _ := t_map3 R' W p (v 21 x) hp (by omega) b true
      by_cases d1 : n = 1
      · by_cases d2 : v 6 p = v 41 x
        · refine ⟨w, ?_⟩
          rw [decide_eq_true ⟨d1, d2⟩, Bool.true_and]
          simp (discharger := omega) only [al_lit, bd_some, pm_cV, v_of R, v_kp1 R W, al_eq, d1, not_true_eq_false, if_false, hw, t0', t1']
          rw [if_neg (by omega)]
          by_cases d3 : iwl v (ch v 1 (v 21 x)) (v 6 p) = o
          · rw [if_neg (by omega), decide_eq_true d3]
          · rw [if_pos d3, decide_eq_false d3]
        · refine ⟨s 17, ?_⟩
          rw [decide_eq_false (fun e => d2 e.2), sw_id, Bool.false_and]
          simp (discharger := omega) only [al_lit, bd_some, pm_cV, v_of R, v_kp1 R W, al_eq, d1, not_true_eq_false, if_false, t0]
          rw [if_pos d2]
      · refine ⟨s 17, ?_⟩
        rw [decide_eq_false (fun e => d1 e.1), sw_id, Bool.false_and]
        simp (discharger := omega) only [al_lit, al_eq, d1, not_false_eq_true, if_true, t0]
    obtain ⟨w', hw'⟩ := tail (aprt v x i o n (v 60 x) 0 && knwn v (v 21 x) o n 0)
    refine ⟨w', ?_⟩
    unfold f_X13_canMap
    rw [pm_cV, show f_X13_isSpace m 1 (nI x) (pm h m s) = _ from t_isSpace0 R W 1 (by decide) x (by omega), bd_some, show decide (x < v (10 + 1) 0) = true from decide_eq_true c1, if_neg (by decide)]
    rw [if_neg (mt k0.mp c2), if_neg (mt k1.mp (by omega)), if_neg (mt k2.mp (by omega)), if_neg (mt k3.mp (by omega))]
    rw [pm_cV, show f_X13_spaceOf m 1 (nI x) 3 (pm h m s) = _ from v_rn R W x c1, bd_some, if_pos (mt (k4 c1).mp c6)]
    refine (t_map1 R W x i o n (nI p) c1 hi ho hn _ (jlp8 (f_X13_canMap_h57 _)) (fun _ => rfl) (v 60 x) 0 true jfu (by omega) (by omega)).trans ?_
    rw [pm_cV, show f_X13_spaceOf m 1 (nI x) 0 (pm h m s) = _ from v_ar1 R W x c1, bd_some, if_neg c2]
    refine (t_map2 R W (v 21 x) o n (nI p) (nI x) (by omega) ho hn _ (jlp8 (f_X13_canMap_h161 _)) (fun _ => rfl) n 0 _ jfu (by omega) (by omega)).trans ?_
    rw [Bool.true_and]
    exact hw'
  · refine ⟨s 17, ?_⟩
    have hcm : cmpV v p x i o n = false := by unfold cmpV; rw [decide_eq_false h0, Bool.false_and, Bool.false_and]
    rw [hcm, sw_id]
    unfold f_X13_canMap
    rw [pm_cV, show f_X13_isSpace m 1 (nI x) (pm h m s) = _ from t_isSpace0 R W 1 (by decide) x (by omega), bd_some]
    by_cases c1 : x < v 11 0
    · have hu := W.uk x c1
      rw [show decide (x < v (10 + 1) 0) = true from decide_eq_true c1, if_neg (by decide)]
      by_cases c2 : x = 0
      · rw [if_pos (k0.mpr c2)]; rfl
      rw [if_neg (mt k0.mp c2)]
      by_cases c3 : n < 1
      · rw [if_pos (k1.mpr c3)]; rfl
      rw [if_neg (mt k1.mp c3)]
      by_cases c4 : 100 < i + n
      · rw [if_pos (k2.mpr c4)]; rfl
      rw [if_neg (mt k2.mp c4)]
      by_cases c5 : 100 < o + n
      · rw [if_pos (k3.mpr c5)]; rfl
      rw [if_neg (mt k3.mp c5), pm_cV, show f_X13_spaceOf m 1 (nI x) 3 (pm h m s) = _ from v_rn R W x c1, bd_some, if_neg (not_not_intro ((k4 c1).mpr (by omega)))]
      rfl
    · rw [show decide (x < v (10 + 1) 0) = false from decide_eq_false c1, if_pos (by decide)]
      rfl

/-- the ranges of a space with one more, behind the first r -/
def rin (v : vw) (x r i o n : Nat) : vw := fun a j =>
  if a = 60 ∧ j = x then v 60 x + 1
  else if 61 ≤ a ∧ a ≤ 63 ∧ j = 3 * x + r then (if a = 61 then i else if a = 62 then o else n)
  else if 61 ≤ a ∧ a ≤ 63 ∧ 3 * x + r < j ∧ j ≤ 3 * x + v 60 x then v a (j - 1) else v a j
/-- where a new range stands: below are those that begin no later -/
def rpl (v : vw) (x i : Nat) : Nat → Nat
  | 0 => 0
  | r + 1 => if v 61 (3 * x + r) ≤ i then r + 1 else rpl v x i r
theorem rpl_le (v : vw) (x i : Nat) : ∀ r, rpl v x i r ≤ r := by
  intro r
  induction r with
  | zero => exact Nat.le_refl 0
  | succ r ih =>
    rw [rpl]
    by_cases h : v 61 (3 * x + r) ≤ i
    · rw [if_pos h]; omega
    · rw [if_neg h]; omega
def dMap (v : vw) (p x i o n : Nat) : Int32 × vw :=
  if i < 100 ∧ o < 100 ∧ n < 100 ∧ x < 8 ∧ cmpV v p x i o n = true then (nI (v 60 x + 1), rin v x (rpl v x i (v 60 x)) i o n) else (nm1, v)
/-- the row of the ranges while they are moved: those from r on stand one further -/
def rsh (n : Nat → Int32) (b r e : Nat) : Nat → Int32 := fun j => if b + 3 * (r + 1) ≤ j ∧ j < b + 3 * (e + 1) then n (j - 3) else n j
theorem t_map4 {h : jh} {m : Nat} {s : ms} (x r : Nat) (hx : x < 8) (hr : r + 1 < 3) (a2 a3 a4 : Int32) (R25 : Nat → Int32 → Int32 → Int32 → Int32 → Int32 → jh → Option (Int32 × jh)) (K25 K : Nat → Int32 → Int32 → Int32 → Int32 → Int32 → jh → Option (Int32 × jh)) (L : Nat → Nat → Int32 → Int32 → Int32 → Int32 → Int32 → Int32 → jh → Option (Int32 × jh)) (hL : ∀ f, L (f + 1) = f_X13_mapNow_h51 R25 K25 K (L f)) : ∀ k i n f, i + k = 3 → k + 1 ≤ f → L f m (nI x) a2 a3 a4 (nI (r + 1)) (nI i) (pm h m (sw s 2 n)) = K m (nI x) a2 a3 a4 (nI (r + 1)) (pm h m (sw s 2 (fun j => if 256 + 14 * (8 * 1 + x) + 4 + 3 * (r + 1) + i ≤ j ∧ j < 256 + 14 * (8 * 1 + x) + 4 + 3 * (r + 1) + 3 then n (j - 3) else n j))) := by
  intro k
  induction k with
  | zero =>
    intro i n f hi hf
    obtain ⟨f, rfl⟩ : ∃ g, f = g + 1 := ⟨f - 1, by omega⟩
    rw [hL]
    unfold f_X13_mapNow_h51
    simp (discharger := omega) only [↓al_m, al_lit, al_add, al_mul, bd_some, pm_cV, pm_gR2, bn_0, bn_1, bn_jz, al_le]
    rw [if_pos (by omega)]
    congr 3
    funext j
    rw [if_neg (by omega)]
  | succ k ih =>
    intro i n f hi hf
    obtain ⟨f, rfl⟩ : ∃ g, f = g + 1 := ⟨f - 1, by omega⟩
    rw [hL]
    unfold f_X13_mapNow_h51
    simp (discharger := omega) only [↓al_m, al_lit, al_add, al_mul, bd_some, pm_cV, pm_gR2, bn_0, bn_1, bn_jz, al_le, al_sub, r_rangeAt, wr2, st2_sw, sw_sw, sw_eq, r_processAt, r_spaceAt, r_numberAt, rd2, Nat.add_sub_cancel]
    rw [if_neg (by omega), ih (i + 1) _ f (by omega) (by omega)]
    congr 3
    funext j
    unfold upd
    by_cases h1 : 256 + 14 * (8 * 1 + x) + 4 + 3 * (r + 1) + (i + 1) ≤ j ∧ j < 256 + 14 * (8 * 1 + x) + 4 + 3 * (r + 1) + 3
    · rw [if_pos h1, if_neg (by omega), if_pos (by omega)]
    · rw [if_neg h1]
      by_cases h2 : j = 256 + 14 * (8 * 1 + x) + 4 + 3 * (r + 1) + i
      · rw [if_pos h2, if_pos (by omega)]
        congr 1
        omega
      · rw [if_neg h2, if_neg (by omega)]
theorem t_map5 {h : jh} {m : Nat} {s : ms} {v : vw} (W : WFv v) (n0 : Nat → Int32) (R : RowV n0 v) (x i e : Nat) (hx : x < v 11 0) (hi : i < 100) (he : e = v 60 x) (he3 : e < 3) (a3 a4 : Int32) : ∀ r f, r ≤ e → r + 1 ≤ f → ∀ (K : Nat → Int32 → Int32 → Int32 → Int32 → Int32 → jh → Option (Int32 × jh)) (L : Nat → Nat → Int32 → Int32 → Int32 → Int32 → Int32 → jh → Option (Int32 × jh)), (∀ f, L (f + 1) = f_X13_mapNow_h25 K (L f)) → L f m (nI x) (nI i) a3 a4 (nI r) (pm h m (sw s 2 (rsh n0 (256 + 14 * (8 * 1 + x) + 4) r e))) = K m (nI x) (nI i) a3 a4 (nI (rpl v x i r)) (pm h m (sw s 2 (rsh n0 (256 + 14 * (8 * 1 + x) + 4) (rpl v x i r) e))) := by
  have hc := W.c1
  obtain ⟨g, hg⟩ := jfu_s
  intro r
  induction r with
  | zero =>
    intro f hr hf K L hL
    obtain ⟨f, rfl⟩ : ∃ g, f = g + 1 := ⟨f - 1, by omega⟩
    rw [hL]
    unfold f_X13_mapNow_h25
    simp (discharger := omega) only [↓al_m, al_lit, al_add, al_mul, bd_some, pm_cV, pm_gR2, bn_0, bn_1, bn_jz, al_le]
    rw [if_pos (by omega), rpl]
  | succ r ih =>
    intro f hr hf K L hL
    obtain ⟨f, rfl⟩ : ∃ g, f = g + 1 := ⟨f - 1, by omega⟩
    have hrg := W.rg x r hx (by omega)
    have e1 : rsh n0 (256 + 14 * (8 * 1 + x) + 4) (r + 1) e (256 + 14 * (8 * 1 + x) + 4 + 3 * r) = nI (v 61 (3 * x + r)) := by
      unfold rsh; rw [if_neg (by omega), R.ri x r hx (by omega)]
    rw [hL]
    unfold f_X13_mapNow_h25
    simp (discharger := omega) only [↓al_m, al_lit, al_add, bd_some, pm_cV, pm_gR2, al_le, al_sub, r_rangeAt, rd2, sw_eq, Nat.add_sub_cancel, e1]
    rw [if_neg (by omega), rpl]
    by_cases h1 : v 61 (3 * x + r) ≤ i
    · rw [if_pos h1, if_pos h1]
    · rw [if_neg h1, if_neg h1]
      refine (t_map4 x r (by omega) (by omega) (nI i) a3 a4 _ _ _ (jlp7 (f_X13_mapNow_h51 _ _ _)) (fun _ => rfl) 3 0 _ jfu (by omega) (by omega)).trans ?_
      rw [nm1_add, al_sub (by omega), Nat.add_sub_cancel]
      have e2 : (fun j => if 256 + 14 * (8 * 1 + x) + 4 + 3 * (r + 1) + 0 ≤ j ∧ j < 256 + 14 * (8 * 1 + x) + 4 + 3 * (r + 1) + 3 then rsh n0 (256 + 14 * (8 * 1 + x) + 4) (r + 1) e (j - 3) else rsh n0 (256 + 14 * (8 * 1 + x) + 4) (r + 1) e j) = rsh n0 (256 + 14 * (8 * 1 + x) + 4) r e := by
        funext j
        unfold rsh
        by_cases h2 : 256 + 14 * (8 * 1 + x) + 4 + 3 * (r + 1) + 0 ≤ j ∧ j < 256 + 14 * (8 * 1 + x) + 4 + 3 * (r + 1) + 3
        · rw [if_pos h2, if_neg (by omega), if_pos (by omega)]
        · rw [if_neg h2]
          by_cases h3 : 256 + 14 * (8 * 1 + x) + 4 + 3 * (r + 1 + 1) ≤ j ∧ j < 256 + 14 * (8 * 1 + x) + 4 + 3 * (e + 1)
          · rw [if_pos h3, if_pos (by omega)]
          · rw [if_neg h3, if_neg (by omega)]
      rw [e2]
      exact ih f (by omega) (by omega) K L hL
theorem d_map {h : jh} {m : Nat} {s : ms} {v : vw} (R : RowV (s 2) v) (W : WFv v) (p x i o n : Nat) (hp : p < 16) (hx : x < 8) (hi : i < 100) (ho : o < 100) (hn : n < 100) : RD h m s (f_X13_mapNow m (nI p) (nI x) (nI i) (nI o) (nI n) (pm h m s)) (dMap v p x i o n) := by
  have hc := W.c1
  obtain ⟨f, hf⟩ := jfu_s
  obtain ⟨w, hw⟩ := t_canMap (h := h) (m := m) R W p x i o n hp hx hi ho hn
  have R' : RowV ((sw s 17 w) 2) v := by rw [sw_ne _ _ _ _ (by decide)]; exact R
  unfold f_X13_mapNow dMap
  rw [pm_cV, hw, bd_some]
  cases hC : cmpV v p x i o n
  · rw [if_neg (show ¬ ¬ bn false = 0 by decide), if_neg (by simp)]
    exact ⟨_, rfl, SB_17 _ _, R'⟩
  · rw [if_pos (show ¬ bn true = 0 by decide), if_pos ⟨hi, ho, hn, hx, rfl⟩]
    have hcv : x < v 11 0 ∧ x ≠ 0 ∧ 1 ≤ n ∧ i + n ≤ 100 ∧ o + n ≤ 100 ∧ v 60 x ≠ 3 := by
      unfold cmpV at hC
      rw [Bool.and_eq_true, Bool.and_eq_true] at hC
      exact of_decide_eq_true hC.1.1
    have hx1 := hcv.1
    have hu := W.uk x hx1
    have hrl := rpl_le v x i (v 60 x)
    rw [pm_cV, show f_X13_spaceOf m 1 (nI x) 3 (pm h m (sw s 17 w)) = _ from v_rn R' W x hx1, bd_some]
    have e0 : sw (sw s 17 w) 2 (rsh (s 2) (256 + 14 * (8 * 1 + x) + 4) (v 60 x) (v 60 x)) = sw s 17 w := by
      have : rsh (s 2) (256 + 14 * (8 * 1 + x) + 4) (v 60 x) (v 60 x) = (sw s 17 w) 2 := by
        rw [sw_ne _ _ _ _ (by decide)]
        funext j; unfold rsh; rw [if_neg (by omega)]
      rw [this, sw_id]
    have t5 := t_map5 (h := h) (m := m) (s := sw s 17 w) W (s 2) R x i (v 60 x) hx1 hi rfl (by omega) (nI o) (nI n) (v 60 x) jfu (Nat.le_refl _) (by omega) (fun y29 y30 y31 y32 y33 y34 h28 => f_X13_mapNow_b101 y29 y30 y31 y32 y33 y34 h28) (jlp6 (f_X13_mapNow_h25 (fun y29 y30 y31 y32 y33 y34 h28 => f_X13_mapNow_b101 y29 y30 y31 y32 y33 y34 h28))) (fun _ => rfl)
    rw [e0] at t5
    rw [t5]
    generalize hr : rpl v x i (v 60 x) = r at hrl ⊢
    have e3 : rsh (s 2) (256 + 14 * (8 * 1 + x) + 4) r (v 60 x) (256 + 14 * (8 * 1 + x) + 3) = nI (v 60 x) := by
      unfold rsh; rw [if_neg (by omega), R.rn x hx1]
    unfold f_X13_mapNow_b101
    simp (discharger := omega) only [↓al_m, al_lit, al_add, al_mul, bd_some, pm_cV, pm_gR2, bn_0, bn_1, bn_jz, r_rangeAt, wr2, st2_sw, sw_sw, sw_eq, r_processAt, r_spaceAt, r_numberAt, rd2, r_spaceOf, upd_ne', upd_at, e3]
    refine ⟨_, rfl, SB_tr (SB_17 _ w) (SB_2 _ _), ?_⟩
    rw [sw_eq]
    have v60 : rin v x r i o n 60 x = v 60 x + 1 := by unfold rin; rw [if_pos ⟨rfl, rfl⟩]
    have at0 : ∀ a, 61 ≤ a → a ≤ 63 → rin v x r i o n a (3 * x + r) = if a = 61 then i else if a = 62 then o else n := by
      intro a h1 h2; unfold rin; rw [if_neg (by omega), if_pos ⟨h1, h2, rfl⟩]
    have atg : ∀ a q, 61 ≤ a → a ≤ 63 → r < q → q ≤ v 60 x → rin v x r i o n a (3 * x + q) = v a (3 * x + (q - 1)) := by
      intro a q h1 h2 h3 h4; unfold rin; rw [if_neg (by omega), if_neg (by omega), if_pos ⟨h1, h2, by omega, by omega⟩]; congr 1; omega
    have atl : ∀ a q, 61 ≤ a → a ≤ 63 → q < r → rin v x r i o n a (3 * x + q) = v a (3 * x + q) := by
      intro a q h1 h2 h3; unfold rin; rw [if_neg (by omega), if_neg (by omega), if_neg (by omega)]
    show RowV _ (rin v x r i o n)
    refine RowV_rg R W.bd x hx ?_ ?_ ?_ ?_ ?_ ?_
    · intro j hj
      simp (discharger := omega) only [upd_ne']
      unfold rsh; rw [if_neg (by omega)]
    · intro a j hj
      unfold rin
      rw [if_neg (by omega), if_neg (by omega), if_neg (by omega)]
    · rw [v60]
      simp (discharger := omega) only [upd_at]
    · intro q hq
      rw [v60] at hq
      simp (discharger := omega) only [upd_ne']
      by_cases h1 : q = r
      · rw [h1, at0 61 (by omega) (by omega)]
        simp (discharger := omega) only [upd_ne', upd_at, if_true]
      · simp (discharger := omega) only [upd_ne']
        by_cases h2 : q < r
        · rw [atl 61 q (by omega) (by omega) h2]
          unfold rsh; rw [if_neg (by omega), R.ri x q hx1 (by omega)]
        · rw [atg 61 q (by omega) (by omega) (by omega) (by omega)]
          unfold rsh; rw [if_pos (by omega), ← R.ri x (q - 1) hx1 (by omega)]
          congr 1; omega
    · intro q hq
      rw [v60] at hq
      simp (discharger := omega) only [upd_ne']
      by_cases h1 : q = r
      · rw [h1, at0 62 (by omega) (by omega)]
        simp (discharger := omega) only [upd_ne', upd_at]
        rfl
      · simp (discharger := omega) only [upd_ne']
        by_cases h2 : q < r
        · rw [atl 62 q (by omega) (by omega) h2]
          unfold rsh; rw [if_neg (by omega), R.ro x q hx1 (by omega)]
        · rw [atg 62 q (by omega) (by omega) (by omega) (by omega)]
          unfold rsh; rw [if_pos (by omega), ← R.ro x (q - 1) hx1 (by omega)]
          congr 1; omega
    · intro q hq
      rw [v60] at hq
      simp (discharger := omega) only [upd_ne']
      by_cases h1 : q = r
      · rw [h1, at0 63 (by omega) (by omega)]
        simp (discharger := omega) only [upd_ne', upd_at]
        rfl
      · simp (discharger := omega) only [upd_ne']
        by_cases h2 : q < r
        · rw [atl 63 q (by omega) (by omega) h2]
          unfold rsh; rw [if_neg (by omega), R.rm x q hx1 (by omega)]
        · rw [atg 63 q (by omega) (by omega) (by omega) (by omega)]
          unfold rsh; rw [if_pos (by omega), ← R.rm x (q - 1) hx1 (by omega)]
          congr 1; omega
theorem d_map' {h : jh} {m : Nat} {s : ms} {v : vw} (R : RowV (s 2) v) (W : WFv v) (p i o n : Nat) (x : Int32) (hx : x < 0 ∨ nI 8 ≤ x) : RD h m s (f_X13_mapNow m (nI p) x (nI i) (nI o) (nI n) (pm h m s)) (nm1, v) := by
  unfold f_X13_mapNow f_X13_canMap
  rw [pm_cV, pm_cV, show f_X13_isSpace m 1 x (pm h m s) = _ from t_isSpace1 R W 1 (by decide) x hx, bd_some, if_pos (by decide), bd_some, if_neg (by decide)]
  exact RD_no R
