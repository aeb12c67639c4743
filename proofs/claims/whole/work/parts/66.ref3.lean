/-! the reference's chains -/
/-- a whole field replaced -/
def sw (s : ms) (k : Nat) (r : Nat → Int32) : ms := fun a b => if a = k then r b else s a b
theorem sw_ne (s : ms) (k : Nat) (r : Nat → Int32) (a : Nat) (h : a ≠ k) : sw s k r a = s a := by
  funext b; simp [sw, h]
theorem sw_eq (s : ms) (k : Nat) (r : Nat → Int32) : sw s k r k = r := by
  funext b; simp [sw]
theorem sw_sw (s : ms) (k : Nat) (r r' : Nat → Int32) : sw (sw s k r) k r' = sw s k r' := by
  funext a b; by_cases h : a = k <;> simp [sw, h]
theorem sw_id (s : ms) (k : Nat) : sw s k (s k) = s := by
  funext a b; by_cases h : a = k <;> simp [sw, h]
theorem st2_sw (s : ms) (k i : Nat) (x : Int32) : st2 s k i x = sw s k (upd (s k) i x) := by
  funext a b; by_cases h : a = k <;> simp [sw, st2, upd, h]
theorem jfu_s : ∃ f, jfu = f + 30000 := ⟨70000, rfl⟩
def inL (v : vw) (x o : Nat) : Bool := decide (o ∈ ch v 0 x)
theorem t_within_l {h : jh} {m : Nat} {s : ms} {v : vw} (R : RowV (s 2) v) (W : WFv v) (o : Nat) (ho : o < 100) (L : Nat → Nat → Int32 → Int32 → jh → Option (Int32 × jh)) (hL : ∀ f, L (f + 1) = f_X13_isWithin_h2 (fun y6 y7 h5 => f_X13_isWithin_b23 y6 y7 h5) (L f)) : ∀ x, x < v 10 0 → ∀ f, x + 2 ≤ f → L f m (nI o) (nI x) (pm h m s) = some (bn (inL v x o), pm h m s) := by
  intro x
  have hc := W.c0
  induction x using Nat.strongRecOn with
  | ind x ih =>
    intro hx f hf
    obtain ⟨f, rfl⟩ : ∃ g, f = g + 1 + 1 := ⟨f - 2, by omega⟩
    rw [hL]
    unfold f_X13_isWithin_h2 f_X13_isWithin_b23
    by_cases h1 : x = o
    · subst h1
      have : inL v x x = true := by unfold inL ch cc; simp
      simp (discharger := omega) only [↓al_m, al_lit, al_add, al_mul, bd_some, pm_cV, pm_gR2, bn_0, bn_1, bn_jz, nm1_ne, this, bn, if_true, if_false, not_true_eq_false]
    · by_cases h0 : x = 0
      · subst h0
        have : inL v 0 o = false := by unfold inL; rw [ch_0]; simp; omega
        simp (discharger := omega) only [↓al_m, al_lit, al_add, al_mul, bd_some, pm_cV, pm_gR2, bn_0, bn_1, bn_jz, v_of R, v_nm R, v_ct0 R, v_ct1 R, v_ct2 R, v_ar0 R W, v_ar1 R W, v_ar2 R W, v_dp0 R W, v_dp1 R W, v_dp2 R W, v_kp0 R W, v_kp1 R W, v_kp2 R W, v_gv R W, v_bg R W, v_rn R W, v_sh R W, nm1_ne, al_eq, h1, if_false, if_true, not_false_eq_true]
        rw [hL]
        unfold f_X13_isWithin_h2 f_X13_isWithin_b23
        simp (discharger := omega) only [↓al_m, al_lit, al_add, al_mul, bd_some, pm_cV, pm_gR2, bn_0, bn_1, bn_jz, this, bn, nm1_ne', if_true, not_false_eq_true]
        rfl
      · have e : inL v x o = inL v (v 20 x) o := by
          unfold inL; rw [ch_s0 W (by omega) hx]; simp; omega
        have hu := W.up0 x (by omega) hx
        simp (discharger := omega) only [↓al_m, al_lit, al_add, al_mul, bd_some, pm_cV, pm_gR2, bn_0, bn_1, bn_jz, v_of R, v_nm R, v_ct0 R, v_ct1 R, v_ct2 R, v_ar0 R W, v_ar1 R W, v_ar2 R W, v_dp0 R W, v_dp1 R W, v_dp2 R W, v_kp0 R W, v_kp1 R W, v_kp2 R W, v_gv R W, v_bg R W, v_rn R W, v_sh R W, nm1_ne, al_eq, h1, h0, if_false]
        rw [e]
        exact ih _ hu (by omega) (f + 1) (by omega)
theorem t_within {h : jh} {m : Nat} {s : ms} {v : vw} (R : RowV (s 2) v) (W : WFv v) (x o : Nat) (hx : x < v 10 0) (ho : o < 100) : f_X13_isWithin m (nI x) (nI o) (pm h m s) = some (bn (inL v x o), pm h m s) := by
  have hc := W.c0
  obtain ⟨f, hf⟩ := jfu_s
  exact t_within_l R W o ho _ (fun _ => rfl) x hx jfu (by omega)
/-- an id through the ranges of a space -/
def thr (v : vw) (x a b id : Nat) : Nat → Nat → Nat
  | 0, _ => 65534
  | k + 1, r => if v a (3 * x + r) ≤ id ∧ id < v a (3 * x + r) + v 63 (3 * x + r) then v b (3 * x + r) + id - v a (3 * x + r) else thr v x a b id k (r + 1)
def thru (v : vw) (x a b id : Nat) : Nat := thr v x a b id (v 60 x) 0
theorem t_oneOut_l {h : jh} {m : Nat} {s : ms} {v : vw} (R : RowV (s 2) v) (W : WFv v) (x id : Nat) (hx : x < v 11 0) (hid : id < 65535) (L : Nat → Nat → Int32 → Int32 → Int32 → jh → Option (Int32 × jh)) (hL : ∀ f, L (f + 1) = f_X13_oneOut_h2 (fun  h19 => some (65534, h19)) (L f)) : ∀ k r f, r + k = v 60 x → k + 1 ≤ f → L f m (nI x) (nI id) (nI r) (pm h m s) = some (nI (thr v x 61 62 id k r), pm h m s) := by
  have hc := W.c1
  have hu := W.uk x hx
  intro k
  induction k with
  | zero =>
    intro r f hr hf
    obtain ⟨f, rfl⟩ : ∃ g, f = g + 1 := ⟨f - 1, by omega⟩
    rw [hL]
    unfold f_X13_oneOut_h2
    simp (discharger := omega) only [↓al_m, al_lit, al_add, al_mul, bd_some, pm_cV, pm_gR2, bn_0, bn_1, bn_jz, v_of R, v_nm R, v_ct0 R, v_ct1 R, v_ct2 R, v_ar0 R W, v_ar1 R W, v_ar2 R W, v_dp0 R W, v_dp1 R W, v_dp2 R W, v_kp0 R W, v_kp1 R W, v_kp2 R W, v_gv R W, v_bg R W, v_rn R W, v_sh R W, al_le]
    rw [if_pos (by omega), thr]
  | succ k ih =>
    intro r f hr hf
    obtain ⟨f, rfl⟩ : ∃ g, f = g + 1 := ⟨f - 1, by omega⟩
    rw [hL]
    unfold f_X13_oneOut_h2
    have hg := W.rg x r hx (by omega)
    have e1 := R.ri x r hx (by omega)
    have e2 := R.ro x r hx (by omega)
    have e3 := R.rm x r hx (by omega)
    simp (discharger := omega) only [↓al_m, al_lit, al_add, al_mul, bd_some, pm_cV, pm_gR2, bn_0, bn_1, bn_jz, v_of R, v_nm R, v_ct0 R, v_ct1 R, v_ct2 R, v_ar0 R W, v_ar1 R W, v_ar2 R W, v_dp0 R W, v_dp1 R W, v_dp2 R W, v_kp0 R W, v_kp1 R W, v_kp2 R W, v_gv R W, v_bg R W, v_rn R W, v_sh R W, al_le, r_rangeAt, rd2, e1, e2, e3, al_sub, r_isIn]
    rw [if_neg (by omega), thr]
    by_cases h1 : v 61 (3 * x + r) ≤ id ∧ id < v 61 (3 * x + r) + v 63 (3 * x + r)
    · rw [if_neg (by simp; omega), if_pos h1, al_sub (by omega)]
    · rw [if_pos (by simp; omega), if_neg h1]
      exact ih (r + 1) f (by omega) (by omega)
theorem t_oneOut {h : jh} {m : Nat} {s : ms} {v : vw} (R : RowV (s 2) v) (W : WFv v) (x id : Nat) (hx : x < v 11 0) (hid : id < 65535) : f_X13_oneOut m (nI x) (nI id) (pm h m s) = some (nI (thru v x 61 62 id), pm h m s) := by
  have hu := W.uk x hx
  obtain ⟨f, hf⟩ := jfu_s
  exact t_oneOut_l R W x id hx hid _ (fun _ => rfl) (v 60 x) 0 jfu (by omega) (by omega)
theorem thr_ltOut {v : vw} (W : WFv v) (x id : Nat) (hx : x < v 11 0) : ∀ k r, r + k ≤ v 60 x → thr v x 61 62 id k r < 100 ∨ thr v x 61 62 id k r = 65534 := by
  intro k
  induction k with
  | zero => intro r hr; exact Or.inr rfl
  | succ k ih =>
    intro r hr
    rw [thr]
    have hg := W.rg x r hx (by omega)
    by_cases h1 : v 61 (3 * x + r) ≤ id ∧ id < v 61 (3 * x + r) + v 63 (3 * x + r)
    · rw [if_pos h1]; omega
    · rw [if_neg h1]; exact ih (r + 1) (by omega)
theorem thru_ltOut {v : vw} (W : WFv v) (x id : Nat) (hx : x < v 11 0) : thru v x 61 62 id < 100 ∨ thru v x 61 62 id = 65534 := thr_ltOut W x id hx _ 0 (by omega)
theorem thr_noOut {v : vw} (W : WFv v) (x : Nat) (hx : x < v 11 0) : ∀ k r, r + k ≤ v 60 x → thr v x 61 62 65534 k r = 65534 := by
  intro k
  induction k with
  | zero => intro r hr; rfl
  | succ k ih =>
    intro r hr
    rw [thr]
    have hg := W.rg x r hx (by omega)
    rw [if_neg (by omega)]
    exact ih (r + 1) (by omega)
theorem thru_noOut {v : vw} (W : WFv v) (x : Nat) (hx : x < v 11 0) : thru v x 61 62 65534 = 65534 := thr_noOut W x hx _ 0 (by omega)
theorem t_oneIn_l {h : jh} {m : Nat} {s : ms} {v : vw} (R : RowV (s 2) v) (W : WFv v) (x id : Nat) (hx : x < v 11 0) (hid : id < 65535) (L : Nat → Nat → Int32 → Int32 → Int32 → jh → Option (Int32 × jh)) (hL : ∀ f, L (f + 1) = f_X13_oneIn_h2 (fun  h19 => some (65534, h19)) (L f)) : ∀ k r f, r + k = v 60 x → k + 1 ≤ f → L f m (nI x) (nI id) (nI r) (pm h m s) = some (nI (thr v x 62 61 id k r), pm h m s) := by
  have hc := W.c1
  have hu := W.uk x hx
  intro k
  induction k with
  | zero =>
    intro r f hr hf
    obtain ⟨f, rfl⟩ : ∃ g, f = g + 1 := ⟨f - 1, by omega⟩
    rw [hL]
    unfold f_X13_oneIn_h2
    simp (discharger := omega) only [↓al_m, al_lit, al_add, al_mul, bd_some, pm_cV, pm_gR2, bn_0, bn_1, bn_jz, v_of R, v_nm R, v_ct0 R, v_ct1 R, v_ct2 R, v_ar0 R W, v_ar1 R W, v_ar2 R W, v_dp0 R W, v_dp1 R W, v_dp2 R W, v_kp0 R W, v_kp1 R W, v_kp2 R W, v_gv R W, v_bg R W, v_rn R W, v_sh R W, al_le]
    rw [if_pos (by omega), thr]
  | succ k ih =>
    intro r f hr hf
    obtain ⟨f, rfl⟩ : ∃ g, f = g + 1 := ⟨f - 1, by omega⟩
    rw [hL]
    unfold f_X13_oneIn_h2
    have hg := W.rg x r hx (by omega)
    have e1 := R.ri x r hx (by omega)
    have e2 := R.ro x r hx (by omega)
    have e3 := R.rm x r hx (by omega)
    simp (discharger := omega) only [↓al_m, al_lit, al_add, al_mul, bd_some, pm_cV, pm_gR2, bn_0, bn_1, bn_jz, v_of R, v_nm R, v_ct0 R, v_ct1 R, v_ct2 R, v_ar0 R W, v_ar1 R W, v_ar2 R W, v_dp0 R W, v_dp1 R W, v_dp2 R W, v_kp0 R W, v_kp1 R W, v_kp2 R W, v_gv R W, v_bg R W, v_rn R W, v_sh R W, al_le, r_rangeAt, rd2, e1, e2, e3, al_sub, r_isIn]
    rw [if_neg (by omega), thr]
    by_cases h1 : v 62 (3 * x + r) ≤ id ∧ id < v 62 (3 * x + r) + v 63 (3 * x + r)
    · rw [if_neg (by simp; omega), if_pos h1, al_sub (by omega)]
    · rw [if_pos (by simp; omega), if_neg h1]
      exact ih (r + 1) f (by omega) (by omega)
theorem t_oneIn {h : jh} {m : Nat} {s : ms} {v : vw} (R : RowV (s 2) v) (W : WFv v) (x id : Nat) (hx : x < v 11 0) (hid : id < 65535) : f_X13_oneIn m (nI x) (nI id) (pm h m s) = some (nI (thru v x 62 61 id), pm h m s) := by
  have hu := W.uk x hx
  obtain ⟨f, hf⟩ := jfu_s
  exact t_oneIn_l R W x id hx hid _ (fun _ => rfl) (v 60 x) 0 jfu (by omega) (by omega)
theorem thr_ltIn {v : vw} (W : WFv v) (x id : Nat) (hx : x < v 11 0) : ∀ k r, r + k ≤ v 60 x → thr v x 62 61 id k r < 100 ∨ thr v x 62 61 id k r = 65534 := by
  intro k
  induction k with
  | zero => intro r hr; exact Or.inr rfl
  | succ k ih =>
    intro r hr
    rw [thr]
    have hg := W.rg x r hx (by omega)
    by_cases h1 : v 62 (3 * x + r) ≤ id ∧ id < v 62 (3 * x + r) + v 63 (3 * x + r)
    · rw [if_pos h1]; omega
    · rw [if_neg h1]; exact ih (r + 1) (by omega)
theorem thru_ltIn {v : vw} (W : WFv v) (x id : Nat) (hx : x < v 11 0) : thru v x 62 61 id < 100 ∨ thru v x 62 61 id = 65534 := thr_ltIn W x id hx _ 0 (by omega)
theorem thr_noIn {v : vw} (W : WFv v) (x : Nat) (hx : x < v 11 0) : ∀ k r, r + k ≤ v 60 x → thr v x 62 61 65534 k r = 65534 := by
  intro k
  induction k with
  | zero => intro r hr; rfl
  | succ k ih =>
    intro r hr
    rw [thr]
    have hg := W.rg x r hx (by omega)
    rw [if_neg (by omega)]
    exact ih (r + 1) (by omega)
theorem thru_noIn {v : vw} (W : WFv v) (x : Nat) (hx : x < v 11 0) : thru v x 62 61 65534 = 65534 := thr_noIn W x hx _ 0 (by omega)
/-- an id on its way out, and in -/
def owl (v : vw) : List Nat → Nat → Nat
  | [], id => id
  | t :: l, id => if t = 0 then id else owl v l (thru v t 61 62 id)
def iwl (v : vw) : List Nat → Nat → Nat
  | [], id => id
  | t :: l, id => if t = 0 then id else thru v t 62 61 (iwl v l id)
theorem owl_0 (v : vw) (id : Nat) : owl v (ch v 1 0) id = id := rfl
theorem iwl_0 (v : vw) (id : Nat) : iwl v (ch v 1 0) id = id := rfl
theorem owl_s {v : vw} (W : WFv v) (x id : Nat) (h1 : 1 ≤ x) (hx : x < v 11 0) : owl v (ch v 1 x) id = owl v (ch v 1 (v 21 x)) (thru v x 61 62 id) := by
  rw [ch_s1 W h1 hx, owl, if_neg (by omega)]
theorem iwl_s {v : vw} (W : WFv v) (x id : Nat) (h1 : 1 ≤ x) (hx : x < v 11 0) : iwl v (ch v 1 x) id = thru v x 62 61 (iwl v (ch v 1 (v 21 x)) id) := by
  rw [ch_s1 W h1 hx, iwl, if_neg (by omega)]
theorem owl_no {v : vw} (W : WFv v) : ∀ x, x < v 11 0 → owl v (ch v 1 x) 65534 = 65534 := by
  intro x
  induction x using Nat.strongRecOn with
  | ind x ih =>
    intro hx
    by_cases h0 : x = 0
    · subst h0; rfl
    · have hu := W.up1 x (by omega) hx
      rw [owl_s W x _ (by omega) hx, thru_noOut W x hx]
      exact ih _ hu (by omega)
theorem t_toRoot_l {h : jh} {m : Nat} {s : ms} {v : vw} (R : RowV (s 2) v) (W : WFv v) (L : Nat → Nat → Int32 → Int32 → jh → Option (Int32 × jh)) (hL : ∀ f, L (f + 1) = f_X13_toRoot_h5 (fun y8 h7 => some (y8, h7)) (L f)) : ∀ x, x < v 11 0 → ∀ id, id < 65535 → ∀ f, x + 2 ≤ f → L f m (nI id) (nI x) (pm h m s) = some (nI (owl v (ch v 1 x) id), pm h m s) := by
  intro x
  have hc := W.c1
  induction x using Nat.strongRecOn with
  | ind x ih =>
    intro hx id hid f hf
    obtain ⟨f, rfl⟩ : ∃ g, f = g + 1 + 1 := ⟨f - 2, by omega⟩
    rw [hL]
    unfold f_X13_toRoot_h5
    by_cases h0 : x = 0
    · subst h0
      simp (discharger := omega) only [↓al_m, al_lit, al_add, al_mul, bd_some, pm_cV, pm_gR2, bn_0, bn_1, bn_jz, al_le]
      rw [if_pos (by omega), owl_0]
    · by_cases h1 : id = 65534
      · subst h1
        simp (discharger := omega) only [↓al_m, al_lit, al_add, al_mul, bd_some, pm_cV, pm_gR2, bn_0, bn_1, bn_jz, al_le, al_eq]
        rw [if_neg (by omega), if_pos trivial, owl_no W x hx]
      · have hu := W.up1 x (by omega) hx
        have ht := thru_ltOut W x id hx
        simp (discharger := omega) only [↓al_m, al_lit, al_add, al_mul, bd_some, pm_cV, pm_gR2, bn_0, bn_1, bn_jz, v_of R, v_nm R, v_ct0 R, v_ct1 R, v_ct2 R, v_ar0 R W, v_ar1 R W, v_ar2 R W, v_dp0 R W, v_dp1 R W, v_dp2 R W, v_kp0 R W, v_kp1 R W, v_kp2 R W, v_gv R W, v_bg R W, v_rn R W, v_sh R W, al_le, al_eq, t_oneOut R W]
        rw [if_neg (by omega), if_neg h1, if_neg h0, owl_s W x _ (by omega) hx]
        exact ih _ hu (by omega) _ (by omega) (f + 1) (by omega)
theorem t_toRoot {h : jh} {m : Nat} {s : ms} {v : vw} (R : RowV (s 2) v) (W : WFv v) (x id : Nat) (hx : x < v 11 0) (hid : id < 65535) : f_X13_toRoot m (nI x) (nI id) (pm h m s) = some (nI (owl v (ch v 1 x) id), pm h m s) := by
  have hc := W.c1
  obtain ⟨f, hf⟩ := jfu_s
  exact t_toRoot_l R W _ (fun _ => rfl) x hx id hid jfu (by omega)
theorem owl_lt {v : vw} (W : WFv v) : ∀ x, x < v 11 0 → ∀ id, (id < 100 ∨ id = 65534) → owl v (ch v 1 x) id < 100 ∨ owl v (ch v 1 x) id = 65534 := by
  intro x
  induction x using Nat.strongRecOn with
  | ind x ih =>
    intro hx id hid
    by_cases h0 : x = 0
    · subst h0; exact hid
    · have hu := W.up1 x (by omega) hx
      rw [owl_s W x _ (by omega) hx]
      exact ih _ hu (by omega) _ (thru_ltOut W x id hx)
theorem iwl_lt {v : vw} (W : WFv v) (x : Nat) (hx : x < v 11 0) (id : Nat) (hid : id < 100 ∨ id = 65534) : iwl v (ch v 1 x) id < 100 ∨ iwl v (ch v 1 x) id = 65534 := by
  by_cases h0 : x = 0
  · subst h0; exact hid
  · rw [iwl_s W x _ (by omega) hx]
    exact thru_ltIn W x _ hx
/-- power over a space, by the chain -/
def ovr (v : vw) (own id : Nat) (pw : Bool) : List Nat → Bool
  | [] => false
  | o :: l => if o = own then pw else if o ≠ 0 ∧ v 21 o = own ∧ v 41 o = id then true else ovr v own id pw l
theorem t_hasOver_l {h : jh} {m : Nat} {s : ms} {v : vw} (R : RowV (s 2) v) (W : WFv v) (own id pw : Nat) (h1 : own < 100) (h2 : id < 100) (h3 : pw ≤ 1) (L : Nat → Nat → Int32 → Int32 → Int32 → Int32 → jh → Option (Int32 × jh)) (hL : ∀ f, L (f + 1) = f_X13_hasOver_h4 (fun  h12 => some (0, h12)) (L f)) : ∀ x, x < v 11 0 → ∀ f, x + 2 ≤ f → L f m (nI own) (nI id) (nI pw) (nI x) (pm h m s) = some (bn (ovr v own id (decide (pw = 1)) (ch v 1 x)), pm h m s) := by
  intro x
  have hc := W.c1
  induction x using Nat.strongRecOn with
  | ind x ih =>
    intro hx f hf
    obtain ⟨f, rfl⟩ : ∃ g, f = g + 1 + 1 := ⟨f - 2, by omega⟩
    rw [hL]
    unfold f_X13_hasOver_h4 f_X13_hasOver_b53
    by_cases h4 : x = own
    · have : ovr v own id (decide (pw = 1)) (ch v 1 x) = decide (pw = 1) := by
        unfold ch cc; rw [ovr, if_pos h4]
      rw [this]
      simp (discharger := omega) only [↓al_m, al_lit, al_add, al_mul, bd_some, pm_cV, pm_gR2, bn_0, bn_1, bn_jz, v_of R, v_nm R, v_ct0 R, v_ct1 R, v_ct2 R, v_ar0 R W, v_ar1 R W, v_ar2 R W, v_dp0 R W, v_dp1 R W, v_dp2 R W, v_kp0 R W, v_kp1 R W, v_kp2 R W, v_gv R W, v_bg R W, v_rn R W, v_sh R W, nm1_ne, al_eq, if_false, h4, not_true_eq_false]
      by_cases h5 : pw = 1 <;> simp [h5, bn]
    · by_cases h0 : x = 0
      · subst h0
        have : ovr v own id (decide (pw = 1)) (ch v 1 0) = false := by
          rw [ch_0, ovr, if_neg h4, if_neg (by simp), ovr]
        simp (discharger := omega) only [↓al_m, al_lit, al_add, al_mul, bd_some, pm_cV, pm_gR2, bn_0, bn_1, bn_jz, v_of R, v_nm R, v_ct0 R, v_ct1 R, v_ct2 R, v_ar0 R W, v_ar1 R W, v_ar2 R W, v_dp0 R W, v_dp1 R W, v_dp2 R W, v_kp0 R W, v_kp1 R W, v_kp2 R W, v_gv R W, v_bg R W, v_rn R W, v_sh R W, nm1_ne, nm1_ne', al_eq, h4, if_false, if_true, not_false_eq_true]
        rw [hL]
        unfold f_X13_hasOver_h4
        simp only [↓al_m, al_lit, al_add, al_mul, bd_some, pm_cV, pm_gR2, bn_0, bn_1, bn_jz, this, bn, if_true]
        rfl
      · have hu := W.up1 x (by omega) hx
        have hk := W.uk x hx
        have e : ovr v own id (decide (pw = 1)) (ch v 1 x) = if v 21 x = own ∧ v 41 x = id then true else ovr v own id (decide (pw = 1)) (ch v 1 (v 21 x)) := by
          rw [ch_s1 W (by omega) hx, ovr, if_neg h4]
          simp [h0]
        simp (discharger := omega) only [↓al_m, al_lit, al_add, al_mul, bd_some, pm_cV, pm_gR2, bn_0, bn_1, bn_jz, v_of R, v_nm R, v_ct0 R, v_ct1 R, v_ct2 R, v_ar0 R W, v_ar1 R W, v_ar2 R W, v_dp0 R W, v_dp1 R W, v_dp2 R W, v_kp0 R W, v_kp1 R W, v_kp2 R W, v_gv R W, v_bg R W, v_rn R W, v_sh R W, nm1_ne, al_eq, h4, h0, if_false, not_false_eq_true, if_true]
        rw [e, ih _ hu (by omega) (f + 1) (by omega)]
        by_cases h5 : v 21 x = own <;> by_cases h6 : v 41 x = id <;> simp [h5, h6, bn]
theorem t_hasOver {h : jh} {m : Nat} {s : ms} {v : vw} (R : RowV (s 2) v) (W : WFv v) (own id pw x : Nat) (h1 : own < 100) (h2 : id < 100) (h3 : pw ≤ 1) (hx : x < v 11 0) : f_X13_hasOver m (nI own) (nI id) (nI pw) (nI x) (pm h m s) = some (bn (ovr v own id (decide (pw = 1)) (ch v 1 x)), pm h m s) := by
  have hc := W.c1
  obtain ⟨f, hf⟩ := jfu_s
  exact t_hasOver_l R W own id pw h1 h2 h3 _ (fun _ => rfl) x hx jfu (by omega)
def ovp (v : vw) (p x : Nat) : Bool := ovr v (v 3 p) (v 6 p) (decide (v 7 p = 1)) (ch v 1 x)
theorem t_isOver {h : jh} {m : Nat} {s : ms} {v : vw} (R : RowV (s 2) v) (W : WFv v) (p x : Nat) (hp : p < 16) (hx : x < v 11 0) : f_X13_isOver m (nI p) (nI x) (pm h m s) = some (bn (ovp v p x), pm h m s) := by
  have hc := W.c1
  have hq := W.pr p hp
  unfold f_X13_isOver
  simp (discharger := omega) only [↓al_m, al_lit, al_add, al_mul, bd_some, pm_cV, pm_gR2, bn_0, bn_1, bn_jz, v_of R, v_nm R, v_ct0 R, v_ct1 R, v_ct2 R, v_ar0 R W, v_ar1 R W, v_ar2 R W, v_dp0 R W, v_dp1 R W, v_dp2 R W, v_kp0 R W, v_kp1 R W, v_kp2 R W, v_gv R W, v_bg R W, v_rn R W, v_sh R W, t_hasOver R W]
  rfl

theorem t_from1 {h : jh} {m : Nat} {v : vw} (W : WFv v) (id : Nat) (L : Nat → Nat → Int32 → Int32 → Int32 → jh → Option (Int32 × jh)) (K : Nat → Int32 → Int32 → jh → Option (Int32 × jh)) (hL : ∀ f, L (f + 1) = f_X13_fromRoot_h5 K (L f)) : ∀ x, x < v 11 0 → ∀ (s : ms), RowV (s 2) v → ∀ n, n + v 31 x ≤ 5 → ∀ f, x + 2 ≤ f → ∃ w : Nat → Int32, (∀ j, j < n → w j = s 17 j) ∧ (∀ j, j < v 31 x → w (n + j) = nI ((ch v 1 x)[j]!)) ∧ L f m (nI id) (nI n) (nI x) (pm h m s) = K m (nI id) (nI (n + v 31 x)) (pm h m (sw s 17 w)) := by
  intro x
  have hc := W.c1
  induction x using Nat.strongRecOn with
  | ind x ih =>
    intro hx s R n hn f hf
    obtain ⟨f, rfl⟩ : ∃ g, f = g + 1 + 1 := ⟨f - 2, by omega⟩
    rw [hL]
    unfold f_X13_fromRoot_h5
    by_cases h0 : x = 0
    · subst h0
      refine ⟨s 17, fun _ _ => rfl, ?_, ?_⟩
      · rw [W.dz1]; intro j hj; omega
      · simp (discharger := omega) only [↓al_m, al_lit, al_add, al_mul, bd_some, pm_cV, pm_gR2, bn_0, bn_1, bn_jz, al_le]
        rw [if_pos (by omega), W.dz1, sw_id]
        rfl
    · have hu := W.up1 x (by omega) hx
      have hd := W.du1 x (by omega) hx
      have R' : RowV ((sw s 17 (upd (s 17) n (nI x))) 2) v := by rw [sw_ne _ _ _ _ (by decide)]; exact R
      obtain ⟨w, h1, h2, h3⟩ := ih _ hu (by omega) (sw s 17 (upd (s 17) n (nI x))) R' (n + 1) (by omega) (f + 1) (by omega)
      refine ⟨w, ?_, ?_, ?_⟩
      · intro j hj
        rw [h1 j (by omega), sw_eq, upd, if_neg (by omega)]
      · intro j hj
        rw [ch_s1 W (by omega) hx]
        cases j with
        | zero => 
          rw [Nat.add_zero, h1 n (by omega), sw_eq, upd, if_pos rfl]; rfl
        | succ j =>
          have := h2 j (by omega)
          rw [show n + (j + 1) = n + 1 + j by omega, this]; rfl
      · simp (discharger := omega) only [↓al_m, al_lit, al_add, al_mul, bd_some, pm_cV, pm_gR2, bn_0, bn_1, bn_jz, pm_gR17, wr17, al_le, st2_sw, v_ar1 R' W, if_neg h0]
        rw [if_neg (by omega), h3, sw_sw, hd]
        congr 2
        omega
theorem ch_len {v : vw} (W : WFv v) : ∀ x, x < v 11 0 → (ch v 1 x).length = v 31 x + 1 ∧ ∀ j, j < v 31 x → 1 ≤ (ch v 1 x)[j]! ∧ (ch v 1 x)[j]! < v 11 0 := by
  intro x
  induction x using Nat.strongRecOn with
  | ind x ih =>
    intro hx
    by_cases h0 : x = 0
    · subst h0
      rw [W.dz1]
      exact ⟨rfl, fun j hj => by omega⟩
    · have hu := W.up1 x (by omega) hx
      have hd := W.du1 x (by omega) hx
      have h1 := ih _ hu (by omega)
      rw [ch_s1 W (by omega) hx, hd]
      refine ⟨by rw [List.length_cons, h1.1], ?_⟩
      intro j hj
      cases j with
      | zero => exact ⟨by show 1 ≤ x; omega, hx⟩
      | succ j => exact h1.2 j (by omega)
/-- an id inward through the spaces of a list, from its n-th on outward ones first -/
def iwn (v : vw) (l : List Nat) : Nat → Nat → Nat
  | 0, id => id
  | n + 1, id => iwn v l n (thru v (l[n]!) 62 61 id)
theorem iwn_cons {v : vw} (t : Nat) (l : List Nat) : ∀ n id, iwn v (t :: l) (n + 1) id = thru v t 62 61 (iwn v l n id) := by
  intro n
  induction n with
  | zero => intro id; rfl
  | succ n ih => intro id; rw [iwn, ih, iwn]; rfl
theorem iwn_iwl {v : vw} (W : WFv v) (id : Nat) : ∀ x, x < v 11 0 → iwn v (ch v 1 x) (v 31 x) id = iwl v (ch v 1 x) id := by
  intro x
  induction x using Nat.strongRecOn with
  | ind x ih =>
    intro hx
    by_cases h0 : x = 0
    · subst h0; rw [W.dz1]; rfl
    · have hu := W.up1 x (by omega) hx
      rw [iwl_s W x _ (by omega) hx, W.du1 x (by omega) hx, ← ih _ hu (by omega), ch_s1 W (by omega) hx, iwn_cons]
theorem iwn_no {v : vw} (W : WFv v) (x : Nat) (hx : x < v 11 0) : ∀ n, n ≤ v 31 x → iwn v (ch v 1 x) n 65534 = 65534 := by
  intro n
  induction n with
  | zero => intro _; rfl
  | succ n ih =>
    intro hn
    have := (ch_len W x hx).2 n (by omega)
    rw [iwn, thru_noIn W _ this.2]
    exact ih (by omega)
theorem t_from2 {h : jh} {m : Nat} {s : ms} {v : vw} (R : RowV (s 2) v) (W : WFv v) (x : Nat) (hx : x < v 11 0) (hw : ∀ j, j < v 31 x → s 17 j = nI ((ch v 1 x)[j]!)) (L : Nat → Nat → Int32 → Int32 → jh → Option (Int32 × jh)) (hL : ∀ f, L (f + 1) = f_X13_fromRoot_h42 (fun y17 h16 => some (y17, h16)) (L f)) : ∀ n, n ≤ v 31 x → ∀ id, id < 65535 → ∀ f, n + 1 ≤ f → L f m (nI id) (nI n - nI 1) (pm h m s) = some (nI (iwn v (ch v 1 x) n id), pm h m s) := by
  have hc := W.c1
  have hd := W.df1 x hx
  intro n
  induction n with
  | zero =>
    intro hn id hid f hf
    obtain ⟨f, rfl⟩ : ∃ g, f = g + 1 := ⟨f - 1, by omega⟩
    rw [hL, show nI 0 - nI 1 = nm1 from rfl]
    unfold f_X13_fromRoot_h42
    simp only [↓al_m, al_lit, al_add, al_mul, bd_some, pm_cV, pm_gR2, bn_0, bn_1, bn_jz, nm1_lt, if_true]
    rfl
  | succ n ih =>
    intro hn id hid f hf
    obtain ⟨f, rfl⟩ : ∃ g, f = g + 1 := ⟨f - 1, by omega⟩
    rw [hL, al_sub (by omega), Nat.add_sub_cancel]
    unfold f_X13_fromRoot_h42
    have hq := (ch_len W x hx).2 n (by omega)
    by_cases h1 : id = 65534
    · subst h1
      rw [iwn_no W x hx (n + 1) hn]
      simp (discharger := omega) only [↓al_m, al_lit, al_add, al_mul, bd_some, pm_cV, pm_gR2, bn_0, bn_1, bn_jz, al_lt, al_eq, if_true]
      rw [if_neg (by omega)]
    · have ht := thru_ltIn W _ id hq.2
      simp (discharger := omega) only [↓al_m, al_lit, al_add, al_mul, bd_some, pm_cV, pm_gR2, bn_0, bn_1, bn_jz, al_lt, al_eq, pm_gR17, rd17, hw, t_oneIn R W]
      rw [if_neg (by omega), if_neg h1, nm1_add, ih (by omega) _ (by omega) f (by omega), iwn]
theorem t_fromRoot {h : jh} {m : Nat} {s : ms} {v : vw} (R : RowV (s 2) v) (W : WFv v) (x id : Nat) (hx : x < v 11 0) (hid : id < 65535) : ∃ w, f_X13_fromRoot m (nI x) (nI id) (pm h m s) = some (nI (iwl v (ch v 1 x) id), pm h m (sw s 17 w)) := by
  have hc := W.c1
  have hd := W.df1 x hx
  obtain ⟨f, hf⟩ := jfu_s
  obtain ⟨w, h1, h2, h3⟩ := t_from1 (h := h) (m := m) W id (jlp4 (f_X13_fromRoot_h5 (fun y7 y8 y9 h6 => jlp3 (f_X13_fromRoot_h42 (fun y17 h16 => some (y17, h16))) jfu y7 y8 (y9 - 1) h6))) _ (fun _ => rfl) x hx s R 0 (by omega) jfu (by omega)
  refine ⟨w, ?_⟩
  unfold f_X13_fromRoot
  rw [al_0, h3]
  have R' : RowV ((sw s 17 w) 2) v := by rw [sw_ne _ _ _ _ (by decide)]; exact R
  have h4 := t_from2 (h := h) (m := m) R' W x hx (fun j hj => by rw [sw_eq, ← h2 j hj, Nat.zero_add]) (jlp3 (f_X13_fromRoot_h42 (fun y17 h16 => some (y17, h16)))) (fun _ => rfl) (v 31 x) (Nat.le_refl _) id hid jfu (by omega)
  rw [iwn_iwl W id x hx] at h4
  rw [Nat.zero_add]
  exact h4
