/-! the class's questions -/
theorem ClsV.it' {W : ms} {v : vw} (C : ClsV W v) (Wf : WFv v) (s : Nat) (hs : s < v 10 0) : W 13 s = ini (v 51 s) := by
  have := Wf.c0
  rw [C.it s (by omega), if_pos hs]
theorem ClsV.gv' {W : ms} {v : vw} (C : ClsV W v) (Wf : WFv v) (s : Nat) (hs : s < v 10 0) : W 12 s = nI (v 50 s) := by
  have := Wf.c0
  rw [C.gv s (by omega), if_pos hs]
theorem c_isDead {h : jh} {w : Nat} {W : ms} {v : vw} (C : ClsV W v) (Wf : WFv v) (s : Nat) (hs : s < v 10 0) : f_X4_isDead (w + 9) (nI s) (pw h w W) = some (bn (decide (v 51 s = 1)), pw h w W) := by
  have hc := Wf.c0
  have hk := Wf.nk s hs
  unfold f_X4_isDead
  simp (discharger := omega) only [↓al_m, ↓al_m2, al_lit, al_add, al_mul, bd_some, bn_0, bn_1, bn_jz, pw_gR9_0, pw_cV10, c_treeHas0 C Wf, pw_gR9_3, cr13, C.it' Wf, ini_m2]
  rw [if_neg (by simp [hs])]
  by_cases h1 : v 51 s = 1 <;> simp [h1, bn]
theorem c_livingInit {h : jh} {w : Nat} {W : ms} {v : vw} (C : ClsV W v) (Wf : WFv v) (s : Nat) (hs : s < v 10 0) : f_X4_livingInit (w + 9) (nI s) (pw h w W) = some (on 16 (initV v s), pw h w W) := by
  have hc := Wf.c0
  have hk := Wf.nk s hs
  unfold f_X4_livingInit
  simp (discharger := omega) only [↓al_m, ↓al_m2, al_lit, al_add, al_mul, bd_some, bn_0, bn_1, bn_jz, pw_gR9_0, pw_cV10, c_treeHas0 C Wf, pw_gR9_3, cr13, C.it' Wf]
  rw [if_neg (by simp [hs])]
  unfold initV on ini
  by_cases h0 : v 51 s = 0
  · simp only [h0]; rfl
  · by_cases h1 : v 51 s = 1
    · simp only [h1]; rfl
    · have h2 : 2 ≤ v 51 s := by omega
      have h3 : ¬ v 51 s - 2 = 16 := by omega
      rw [if_neg h0, if_neg h1, if_pos h2, if_neg (show ¬ nI (v 51 s - 2) < nI 0 by rw [al_lt (by omega) (by omega)]; omega), if_neg h3]
theorem c_isInit {h : jh} {w : Nat} {W : ms} {v : vw} (C : ClsV W v) (Wf : WFv v) (p : Nat) (hp : p < 16) : f_X11_isInit w (nI p) (pw h w W) = some (bn (isIni v p), pw h w W) := by
  have hc := Wf.c0
  have hq := Wf.pr p hp
  have hk := Wf.nk (v 2 p) (by omega)
  have e1 : W 1 p = nI (v 2 p) := C.pa p 1 hp (by decide)
  unfold f_X11_isInit isIni
  simp (discharger := omega) only [↓al_m, ↓al_m2, al_lit, al_add, al_mul, bd_some, bn_0, bn_1, bn_jz, pw_gR0_1, pw_gR9_3, pw_gR0_0, pw_gR1_1, cr1, e1, cr13, C.it' Wf, ini_nI]
  by_cases h1 : v 51 (v 2 p) = p + 2 <;> simp [h1, bn]
theorem c_sees {h : jh} {w : Nat} {W : ms} {v : vw} (C : ClsV W v) (Wf : WFv v) (p q : Nat) (hp : p < 16) (hq : q < 16) : f_X11_sees w (nI p) (nI q) (pw h w W) = some (bn (sesV v p q), pw h w W) := by
  have hc := Wf.c0
  have h1 := Wf.pr p hp
  have h2 := Wf.nm q (v 2 p) hq (by omega)
  have e1 : W 1 p = nI (v 2 p) := C.pa p 1 hp (by decide)
  unfold f_X11_sees sesV
  simp (discharger := omega) only [↓al_m, ↓al_m2, al_lit, al_add, al_mul, bd_some, bn_0, bn_1, bn_jz, pw_gR0_0, pw_gR1_1, cr1, e1, pw_cV1, c_numberOf C, al_eq]
  by_cases h3 : v 8 (8 * q + v 2 p) = 0 <;> simp [h3, bn]
theorem c_holder_l {h : jh} {w : Nat} {W : ms} {v : vw} (C : ClsV W v) (Wf : WFv v) (x n : Nat) (hx : x < 8) (hn : n < 100) (L : Nat → Nat → Int32 → Int32 → Int32 → jh → Option (Int32 × jh)) (hL : ∀ f, L (f + 1) = f_X5_holderOf_h2 (fun  h9 => some ((-1), h9)) (L f)) : ∀ k i f, i + k = 16 → k + 1 ≤ f → L f (w + 1) (nI x) (nI n) (nI i) (pw h w W) = some (on 16 (ff (whP v x n) k i), pw h w W) := by
  intro k
  induction k with
  | zero =>
    intro i f hi hf
    obtain ⟨f, rfl⟩ : ∃ g, f = g + 1 := ⟨f - 1, by omega⟩
    rw [hL]
    unfold f_X5_holderOf_h2
    simp (discharger := omega) only [↓al_m, ↓al_m2, al_lit, al_add, al_mul, bd_some, bn_0, bn_1, bn_jz, al_le]
    rw [if_pos (by omega), ff, on, if_pos (by omega)]
  | succ k ih =>
    intro i f hi hf
    obtain ⟨f, rfl⟩ : ∃ g, f = g + 1 := ⟨f - 1, by omega⟩
    rw [hL]
    unfold f_X5_holderOf_h2
    have h2 := Wf.nm i x (by omega) hx
    simp (discharger := omega) only [↓al_m, ↓al_m2, al_lit, al_add, al_mul, bd_some, bn_0, bn_1, bn_jz, al_le, al_eq, pw_gI1_7, c_holds, C.th, pw_cV1, c_numberOf C]
    rw [if_neg (by omega), ff, ih (i + 1) f (by omega) (by omega)]
    unfold whP
    have hi16 : i < 16 := by omega
    by_cases h3 : v 0 i = 1 <;> by_cases h4 : v 8 (8 * i + x) = n <;> simp [h3, h4, on, hi16] <;> omega
theorem c_holder {h : jh} {w : Nat} {W : ms} {v : vw} (C : ClsV W v) (Wf : WFv v) (x n : Nat) (hx : x < 8) (hn : n < 100) : f_X5_holderOf (w + 1) (nI x) (nI n) (pw h w W) = some (on 16 (who v x n), pw h w W) := by
  obtain ⟨f, hf⟩ := jfu_s
  exact c_holder_l C Wf x n hx hn _ (fun _ => rfl) 16 0 jfu (by omega) (by omega)
/-- the bits of the numbers in use in a space -/
def tkb (v : vw) (x : Nat) : Nat → Nat → Int32 → Int32
  | 0, _, a => a
  | k + 1, i, a => tkb v x k (i + 1) (if v 0 i = 1 then a ||| bI (v 8 (8 * i + x)) else a)
theorem c_taken_l {h : jh} {w : Nat} {W : ms} {v : vw} (C : ClsV W v) (Wf : WFv v) (x : Nat) (hx : x < 8) (L : Nat → Nat → Int32 → Int32 → Int32 → jh → Option (Int32 × jh)) (hL : ∀ f, L (f + 1) = f_X5_numbersTaken_h4 (fun y9 h8 => some (y9, h8)) (L f)) : ∀ k i a f, i + k = 16 → k + 1 ≤ f → L f (w + 1) (nI x) a (nI i) (pw h w W) = some (tkb v x k i a, pw h w W) := by
  intro k
  induction k with
  | zero =>
    intro i a f hi hf
    obtain ⟨f, rfl⟩ : ∃ g, f = g + 1 := ⟨f - 1, by omega⟩
    rw [hL]
    unfold f_X5_numbersTaken_h4
    simp (discharger := omega) only [↓al_m, ↓al_m2, al_lit, al_add, al_mul, bd_some, bn_0, bn_1, bn_jz, al_le]
    rw [if_pos (by omega), tkb]
  | succ k ih =>
    intro i a f hi hf
    obtain ⟨f, rfl⟩ : ∃ g, f = g + 1 := ⟨f - 1, by omega⟩
    rw [hL]
    unfold f_X5_numbersTaken_h4
    simp (discharger := omega) only [↓al_m, ↓al_m2, al_lit, al_add, al_mul, bd_some, bn_0, bn_1, bn_jz, al_le, al_eq, pw_gI1_7, c_holds, C.th, pw_cV1, c_numberOf C, bI_eq]
    rw [if_neg (by omega), tkb, ih (i + 1) _ f (by omega) (by omega), ih (i + 1) _ f (by omega) (by omega)]
    have hi16 : i < 16 := by omega
    by_cases h3 : v 0 i = 1 <;> simp [h3, hi16]
theorem c_taken {h : jh} {w : Nat} {W : ms} {v : vw} (C : ClsV W v) (Wf : WFv v) (x : Nat) (hx : x < 8) : f_X5_numbersTaken (w + 1) (nI x) (pw h w W) = some (tkb v x 16 0 (nI 0), pw h w W) := by
  obtain ⟨f, hf⟩ := jfu_s
  exact c_taken_l C Wf x hx _ (fun _ => rfl) 16 0 (nI 0) jfu (by omega) (by omega)
theorem tkb_hb {v : vw} (Wf : WFv v) (x n : Nat) (hx : x < 8) (hn : n < 32) : ∀ k i a, i + k = 16 → hb (tkb v x k i a) n = (hb a n || decide (ff (whP v x n) k i ≠ 16)) := by
  intro k
  induction k with
  | zero => intro i a hi; rw [tkb, ff]; simp; omega
  | succ k ih =>
    intro i a hi
    have h2 := Wf.nm i x (by omega) hx
    rw [tkb, ih (i + 1) _ (by omega), ff]
    unfold whP
    by_cases h3 : v 0 i = 1
    · by_cases h4 : v 8 (8 * i + x) = n
      · rw [if_pos h3, if_pos (by simp [h3, h4]), hb_or, h4, hb_bI n n hn hn]
        have : i ≠ 16 := by omega
        simp [this]
      · rw [if_pos h3, if_neg (by simp [h4]), hb_or, hb_bI _ n (by omega) hn]
        have : ¬ n = v 8 (8 * i + x) := fun e => h4 e.symm
        simp [this]
    · rw [if_neg h3, if_neg (by simp [h3])]
theorem tkb_tkn {v : vw} (Wf : WFv v) (x n : Nat) (hx : x < 8) (hn : n < 32) : hb (tkb v x 16 0 (nI 0)) n = tkn v x n := by
  rw [tkb_hb Wf x n hx hn 16 0 _ (by omega), hb_0, Bool.false_or]
  rfl
theorem c_next_l {h : jh} {v : vw} (Wf : WFv v) (x : Nat) (hx : x < 8) (L : Nat → Int32 → Int32 → Int32 → jh → Option (Int32 × jh)) (hL : ∀ f, L (f + 1) = f_X4_nextNumber_h10 (fun  h8 => some (0, h8)) (L f)) : ∀ k g i f, i + k = 20 → g ≤ 20 → k + 1 ≤ f → L f (tkb v x 16 0 (nI 0)) (nI g) (nI i) h = some (nI (nxt (tkn v x) k g), h) := by
  intro k
  induction k with
  | zero =>
    intro g i f hi hg hf
    obtain ⟨f, rfl⟩ : ∃ g, f = g + 1 := ⟨f - 1, by omega⟩
    rw [hL]
    unfold f_X4_nextNumber_h10
    simp (discharger := omega) only [↓al_m, ↓al_m2, al_lit, al_add, al_mul, bd_some, bn_0, bn_1, bn_jz, al_le]
    rw [if_pos (by omega), nxt]
  | succ k ih =>
    intro g i f hi hg hf
    obtain ⟨f, rfl⟩ : ∃ g, f = g + 1 := ⟨f - 1, by omega⟩
    rw [hL]
    unfold f_X4_nextNumber_h10 f_X4_nextNumber_b30
    by_cases h1 : g < 20
    · have h2 : ¬ 20 ≤ g := by omega
      simp (discharger := omega) only [↓al_m, ↓al_m2, al_lit, al_add, al_mul, bd_some, bn_0, bn_1, bn_jz, al_le, al_lt, c_holds, tkb_tkn Wf]
      rw [if_neg (by omega), if_pos h1, nxt, if_neg h2, ih (g + 1) (i + 1) f (by omega) (by omega) (by omega)]
      cases tkn v x (g + 1) <;> simp
    · have h2 : 20 ≤ g := by omega
      simp (discharger := omega) only [↓al_m, ↓al_m2, al_lit, al_add, al_mul, bd_some, bn_0, bn_1, bn_jz, al_le, al_lt, c_holds, tkb_tkn Wf]
      rw [if_neg (by omega), if_neg h1, nxt, if_pos h2, ih 2 (i + 1) f (by omega) (by omega) (by omega)]
      cases tkn v x 2 <;> simp
theorem c_next {h : jh} {w : Nat} {W : ms} {v : vw} (C : ClsV W v) (Wf : WFv v) (x : Nat) (hx : x < v 10 0) : f_X4_nextNumber (w + 9) (nI x) (tkb v x 16 0 (nI 0)) (pw h w W) = some (nI (nxt (tkn v x) 19 (v 50 x)), pw h w W) := by
  have hc := Wf.c0
  have hk := Wf.nk x hx
  obtain ⟨f, hf⟩ := jfu_s
  unfold f_X4_nextNumber
  rw [pw_gR9_2, cr12 _ _ _ _ _ (by omega), C.gv' Wf x hx]
  exact c_next_l Wf x (by omega) _ (fun _ => rfl) 19 (v 50 x) 1 jfu (by omega) (by omega) (by omega)
theorem c_least_l {h : jh} {w : Nat} {W : ms} {v : vw} (C : ClsV W v) (L : Nat → Nat → Int32 → jh → Option (Int32 × jh)) (hL : ∀ f, L (f + 1) = f_X5_leastFree_h2 (fun  h6 => some ((-1), h6)) (L f)) : ∀ k i f, i + k = 16 → k + 1 ≤ f → L f (w + 1) (nI i) (pw h w W) = some (on 16 (ff (fun q => decide (v 0 q ≠ 1)) k i), pw h w W) := by
  intro k
  induction k with
  | zero =>
    intro i f hi hf
    obtain ⟨f, rfl⟩ : ∃ g, f = g + 1 := ⟨f - 1, by omega⟩
    rw [hL]
    unfold f_X5_leastFree_h2
    simp (discharger := omega) only [↓al_m, ↓al_m2, al_lit, al_add, al_mul, bd_some, bn_0, bn_1, bn_jz, al_le]
    rw [if_pos (by omega), ff, on, if_pos (by omega)]
  | succ k ih =>
    intro i f hi hf
    obtain ⟨f, rfl⟩ : ∃ g, f = g + 1 := ⟨f - 1, by omega⟩
    rw [hL]
    unfold f_X5_leastFree_h2
    simp (discharger := omega) only [↓al_m, ↓al_m2, al_lit, al_add, al_mul, bd_some, bn_0, bn_1, bn_jz, al_le, pw_gI1_7, c_holds, C.th]
    rw [if_neg (by omega), ff, ih (i + 1) f (by omega) (by omega)]
    have hi16 : i < 16 := by omega
    by_cases h3 : v 0 i = 1 <;> simp [h3, hi16, on]
    omega
theorem c_least {h : jh} {w : Nat} {W : ms} {v : vw} (C : ClsV W v) : f_X5_leastFree (w + 1) (pw h w W) = some (on 16 (fkc v), pw h w W) := by
  obtain ⟨f, hf⟩ := jfu_s
  exact c_least_l C _ (fun _ => rfl) 16 0 jfu (by omega) (by omega)
theorem c_thruO_l {h : jh} {w : Nat} {W : ms} {v : vw} (C : ClsV W v) (Wf : WFv v) (x id : Nat) (hx : x < v 11 0) (hid : id < 65535) (L : Nat → Nat → Int32 → Int32 → Nat → Nat → Int32 → jh → Option (Int32 × jh)) (hL : ∀ f, L (f + 1) = f_X10_through_h16 (fun  h15 => some (65534, h15)) (L f)) : ∀ k r f, r + k = v 60 x → k + 1 ≤ f → L f (w + 15) (nI x) (nI id) (w + 20) (w + 21) (nI r) (pw h w W) = some (nI (thr v x 61 62 id k r), pw h w W) := by
  have hc := Wf.c1
  have hu := Wf.uk x hx
  intro k
  induction k with
  | zero =>
    intro r f hr hf
    obtain ⟨f, rfl⟩ : ∃ g, f = g + 1 := ⟨f - 1, by omega⟩
    rw [hL]
    unfold f_X10_through_h16
    simp (discharger := omega) only [↓al_m, ↓al_m2, al_lit, al_add, al_mul, bd_some, bn_0, bn_1, bn_jz, al_le, pw_gR15_2, cr17, C.rn]
    rw [if_pos (by omega), thr]
  | succ k ih =>
    intro r f hr hf
    obtain ⟨f, rfl⟩ : ∃ g, f = g + 1 := ⟨f - 1, by omega⟩
    have hg := Wf.rg x r hx (by omega)
    have e1 := C.ri x r hx (by omega)
    have e2 := C.ro x r hx (by omega)
    have e3 := C.rm x r hx (by omega)
    rw [hL]
    unfold f_X10_through_h16
    simp (discharger := omega) only [↓al_m, ↓al_m2, al_lit, al_add, al_mul, bd_some, bn_0, bn_1, bn_jz, al_le, al_lt, pw_gR15_2, pw_gR15_5, cr17, C.rn, Nat.mul_comm x 3, cr18, cr19, cr20, e1, e2, e3]
    rw [if_neg (by omega), if_neg (by omega), thr, ih (r + 1) f (by omega) (by omega)]
    by_cases h1 : v 61 (3 * x + r) ≤ id ∧ id < v 61 (3 * x + r) + v 63 (3 * x + r)
    · rw [if_neg (by omega), if_neg (by omega), if_pos h1, al_sub (by omega)]
    · rw [if_neg h1]
      by_cases h2 : id < v 61 (3 * x + r)
      · rw [if_pos h2]
      · rw [if_neg h2, if_pos (by omega)]
theorem c_thruO {h : jh} {w : Nat} {W : ms} {v : vw} (C : ClsV W v) (Wf : WFv v) (x id : Nat) (hx : x < v 11 0) (hid : id < 65535) : f_X10_through (w + 15) (nI x) (nI id) (w + 20) (w + 21) (pw h w W) = some (nI (thru v x 61 62 id), pw h w W) := by
  have hc := Wf.c1
  have hu := Wf.uk x hx
  obtain ⟨f, hf⟩ := jfu_s
  unfold f_X10_through
  rw [if_neg (show ¬ nI x < 0 from nI_pos (by omega)), if_pos (show nI x < (8 : Int32) from (al_lt (b := 8) (by omega) (by omega)).mpr (by omega))]
  exact c_thruO_l C Wf x id hx hid _ (fun _ => rfl) (v 60 x) 0 jfu (by omega) (by omega)
theorem c_thruI_l {h : jh} {w : Nat} {W : ms} {v : vw} (C : ClsV W v) (Wf : WFv v) (x id : Nat) (hx : x < v 11 0) (hid : id < 65535) (L : Nat → Nat → Int32 → Int32 → Nat → Nat → Int32 → jh → Option (Int32 × jh)) (hL : ∀ f, L (f + 1) = f_X10_through_h16 (fun  h15 => some (65534, h15)) (L f)) : ∀ k r f, r + k = v 60 x → k + 1 ≤ f → L f (w + 15) (nI x) (nI id) (w + 21) (w + 20) (nI r) (pw h w W) = some (nI (thr v x 62 61 id k r), pw h w W) := by
  have hc := Wf.c1
  have hu := Wf.uk x hx
  intro k
  induction k with
  | zero =>
    intro r f hr hf
    obtain ⟨f, rfl⟩ : ∃ g, f = g + 1 := ⟨f - 1, by omega⟩
    rw [hL]
    unfold f_X10_through_h16
    simp (discharger := omega) only [↓al_m, ↓al_m2, al_lit, al_add, al_mul, bd_some, bn_0, bn_1, bn_jz, al_le, pw_gR15_2, cr17, C.rn]
    rw [if_pos (by omega), thr]
  | succ k ih =>
    intro r f hr hf
    obtain ⟨f, rfl⟩ : ∃ g, f = g + 1 := ⟨f - 1, by omega⟩
    have hg := Wf.rg x r hx (by omega)
    have e1 := C.ri x r hx (by omega)
    have e2 := C.ro x r hx (by omega)
    have e3 := C.rm x r hx (by omega)
    rw [hL]
    unfold f_X10_through_h16
    simp (discharger := omega) only [↓al_m, ↓al_m2, al_lit, al_add, al_mul, bd_some, bn_0, bn_1, bn_jz, al_le, al_lt, pw_gR15_2, pw_gR15_5, cr17, C.rn, Nat.mul_comm x 3, cr18, cr19, cr20, e1, e2, e3]
    rw [if_neg (by omega), if_neg (by omega), thr, ih (r + 1) f (by omega) (by omega)]
    by_cases h1 : v 62 (3 * x + r) ≤ id ∧ id < v 62 (3 * x + r) + v 63 (3 * x + r)
    · rw [if_neg (by omega), if_neg (by omega), if_pos h1, al_sub (by omega)]
    · rw [if_neg h1]
      by_cases h2 : id < v 62 (3 * x + r)
      · rw [if_pos h2]
      · rw [if_neg h2, if_pos (by omega)]
theorem c_thruI {h : jh} {w : Nat} {W : ms} {v : vw} (C : ClsV W v) (Wf : WFv v) (x id : Nat) (hx : x < v 11 0) (hid : id < 65535) : f_X10_through (w + 15) (nI x) (nI id) (w + 21) (w + 20) (pw h w W) = some (nI (thru v x 62 61 id), pw h w W) := by
  have hc := Wf.c1
  have hu := Wf.uk x hx
  obtain ⟨f, hf⟩ := jfu_s
  unfold f_X10_through
  rw [if_neg (show ¬ nI x < 0 from nI_pos (by omega)), if_pos (show nI x < (8 : Int32) from (al_lt (b := 8) (by omega) (by omega)).mpr (by omega))]
  exact c_thruI_l C Wf x id hx hid _ (fun _ => rfl) (v 60 x) 0 jfu (by omega) (by omega)
theorem c_out_l {h : jh} {w : Nat} {W : ms} {v : vw} (C : ClsV W v) (Wf : WFv v) (L : Nat → Nat → Int32 → Int32 → Int32 → jh → Option (Int32 × jh)) (hL : ∀ f, L (f + 1) = f_X10_outward_h8 (fun y14 h13 => some (y14, h13)) (L f)) : ∀ x, x < v 11 0 → ∀ id i f, id < 65535 → i + x + 1 ≤ 8 → x + 2 ≤ f → L f (w + 15) (nI id) (nI x) (nI i) (pw h w W) = some (nI (owl v (ch v 1 x) id), pw h w W) := by
  have hc := Wf.c1
  intro x
  induction x using Nat.strongRecOn with
  | ind x ih =>
    intro hx id i f hid hi hf
    obtain ⟨f, rfl⟩ : ∃ g, f = g + 1 + 1 := ⟨f - 2, by omega⟩
    rw [hL]
    unfold f_X10_outward_h8
    by_cases h0 : x = 0
    · subst h0
      simp (discharger := omega) only [↓al_m, ↓al_m2, al_lit, al_add, al_mul, bd_some, bn_0, bn_1, bn_jz, al_le, pw_gR15_0, pw_cV16, c_around1 C Wf, if_true]
      rw [if_neg (by omega), owl_0]
    · have hu := Wf.up1 x (by omega) hx
      have ht := thru_ltOut Wf x id hx
      simp (discharger := omega) only [↓al_m, ↓al_m2, al_lit, al_add, al_mul, bd_some, bn_0, bn_1, bn_jz, al_le, pw_gR15_0, pw_gR15_3, pw_gR15_4, pw_cV16, pw_cV15, c_around1 C Wf, c_thruO C Wf, h0, if_false, nm1_ne]
      rw [if_neg (by omega), owl_s Wf x _ (by omega) hx]
      exact ih _ hu (by omega) _ _ (f + 1) (by omega) (by omega) (by omega)
theorem c_out {h : jh} {w : Nat} {W : ms} {v : vw} (C : ClsV W v) (Wf : WFv v) (x id : Nat) (hx : x < v 11 0) (hid : id < 65535) : f_X10_outward (w + 15) (nI x) (nI id) (pw h w W) = some (nI (owl v (ch v 1 x) id), pw h w W) := by
  have hc := Wf.c1
  obtain ⟨f, hf⟩ := jfu_s
  exact c_out_l C Wf _ (fun _ => rfl) x hx id 0 jfu hid (by omega) (by omega)
theorem c_anc_l {h : jh} {w : Nat} {W : ms} {v : vw} (C : ClsV W v) (Wf : WFv v) (u : Nat) (hu4 : u < 8) (L : Nat → Nat → Int32 → Int32 → Int32 → jh → Option (Int32 × jh)) (hL : ∀ f, L (f + 1) = f_X9_ancestor_h5 (fun y6 h5 => some (y6, h5)) (L f)) : ∀ k i x f, i + k = u → x < v 11 0 → k ≤ v 31 x → k + 1 ≤ f → L f (w + 16) (nI u) (nI x) (nI i) (pw h w W) = some (nI ((ch v 1 x)[k]!), pw h w W) := by
  have hc := Wf.c1
  intro k
  induction k with
  | zero =>
    intro i x f hi hx hk hf
    obtain ⟨f, rfl⟩ : ∃ g, f = g + 1 := ⟨f - 1, by omega⟩
    rw [hL]
    unfold f_X9_ancestor_h5
    simp (discharger := omega) only [↓al_m, ↓al_m2, al_lit, al_add, al_mul, bd_some, bn_0, bn_1, bn_jz, al_le]
    rw [if_pos (by omega)]
    rfl
  | succ k ih =>
    intro i x f hi hx hk hf
    obtain ⟨f, rfl⟩ : ∃ g, f = g + 1 := ⟨f - 1, by omega⟩
    have h0 : ¬ x = 0 := by
      intro e; rw [e, Wf.dz1] at hk; omega
    have hu := Wf.up1 x (by omega) hx
    have hd := Wf.du1 x (by omega) hx
    rw [hL]
    unfold f_X9_ancestor_h5
    simp (discharger := omega) only [↓al_m, ↓al_m2, al_lit, al_add, al_mul, bd_some, bn_0, bn_1, bn_jz, al_le, pw_cV16, c_around1 C Wf, h0, if_false]
    rw [if_neg (by omega), if_neg (by omega), ih (i + 1) (v 21 x) f (by omega) (by omega) (by omega) (by omega), ch_s1 Wf (by omega) hx]
    rfl
theorem c_anc {h : jh} {w : Nat} {W : ms} {v : vw} (C : ClsV W v) (Wf : WFv v) (x u : Nat) (hx : x < v 11 0) (hu : u ≤ v 31 x) : f_X9_ancestor (w + 16) (nI x) (nI u) (pw h w W) = some (nI ((ch v 1 x)[u]!), pw h w W) := by
  have hd := Wf.df1 x hx
  obtain ⟨f, hf⟩ := jfu_s
  exact c_anc_l C Wf u (by omega) _ (fun _ => rfl) u 0 x jfu (by omega) hx hu (by omega)
theorem c_in_l {h : jh} {w : Nat} {W : ms} {v : vw} (C : ClsV W v) (Wf : WFv v) (x : Nat) (hx : x < v 11 0) (L : Nat → Nat → Int32 → Int32 → Int32 → jh → Option (Int32 × jh)) (hL : ∀ f, L (f + 1) = f_X10_inward_h14 (fun y13 h12 => some (y13, h12)) (L f)) : ∀ n, n ≤ v 31 x → ∀ id, id < 65535 → ∀ f, n + 1 ≤ f → L f (w + 15) (nI x) (nI id) (nI n - nI 1) (pw h w W) = some (nI (iwn v (ch v 1 x) n id), pw h w W) := by
  have hc := Wf.c1
  have hd := Wf.df1 x hx
  intro n
  induction n with
  | zero =>
    intro hn id hid f hf
    obtain ⟨f, rfl⟩ : ∃ g, f = g + 1 := ⟨f - 1, by omega⟩
    rw [hL, show nI 0 - nI 1 = nm1 from rfl]
    unfold f_X10_inward_h14
    simp only [↓al_m, ↓al_m2, al_lit, al_add, al_mul, bd_some, bn_0, bn_1, bn_jz, nm1_lt, if_true]
    rfl
  | succ n ih =>
    intro hn id hid f hf
    obtain ⟨f, rfl⟩ : ∃ g, f = g + 1 := ⟨f - 1, by omega⟩
    rw [hL, al_sub (by omega), Nat.add_sub_cancel]
    unfold f_X10_inward_h14
    have hq := (ch_len Wf x hx).2 n (by omega)
    have ht := thru_ltIn Wf _ id hq.2
    simp (discharger := omega) only [↓al_m, ↓al_m2, al_lit, al_add, al_mul, bd_some, bn_0, bn_1, bn_jz, al_lt, pw_gR15_0, pw_gR15_3, pw_gR15_4, pw_cV16, pw_cV15, c_anc C Wf, c_thruI C Wf]
    rw [if_neg (by omega), nm1_add, ih (by omega) _ (by omega) f (by omega), iwn]
theorem c_in {h : jh} {w : Nat} {W : ms} {v : vw} (C : ClsV W v) (Wf : WFv v) (x id : Nat) (hx : x < v 11 0) (hid : id < 65535) : f_X10_inward (w + 15) (nI x) (nI id) (pw h w W) = some (nI (iwl v (ch v 1 x) id), pw h w W) := by
  have hd := Wf.df1 x hx
  obtain ⟨f, hf⟩ := jfu_s
  unfold f_X10_inward
  rw [pw_gR15_0, pw_cV16, c_depth1 C Wf x hx, bd_some, ← iwn_iwl Wf id x hx]
  exact c_in_l C Wf x hx _ (fun _ => rfl) (v 31 x) (Nat.le_refl _) id hid jfu (by omega)
theorem c_ruled_l {h : jh} {w : Nat} {W : ms} {v : vw} (C : ClsV W v) (Wf : WFv v) (own id : Nat) (b : Bool) (h1 : own < 100) (h2 : id < 100) (L : Nat → Nat → Int32 → Int32 → Int32 → Int32 → Int32 → jh → Option (Int32 × jh)) (hL : ∀ f, L (f + 1) = f_X10_isRuled_h6 (fun  h12 => some (0, h12)) (L f)) : ∀ x, x < v 11 0 → ∀ i f, i + x + 1 ≤ 8 → x + 2 ≤ f → L f (w + 15) (nI own) (bn b) (nI id) (nI x) (nI i) (pw h w W) = some (bn (ovr v own id b (ch v 1 x)), pw h w W) := by
  have hc := Wf.c1
  intro x
  induction x using Nat.strongRecOn with
  | ind x ih =>
    intro hx i f hi hf
    obtain ⟨f, rfl⟩ : ∃ g, f = g + 1 + 1 := ⟨f - 2, by omega⟩
    rw [hL]
    unfold f_X10_isRuled_h6
    by_cases h4 : x = own
    · have : ovr v own id b (ch v 1 x) = b := by unfold ch cc; rw [ovr, if_pos h4]
      rw [this]
      simp (discharger := omega) only [↓al_m, ↓al_m2, al_lit, al_add, al_mul, bd_some, bn_0, bn_1, bn_jz, al_le, al_eq, nm1_ne, if_false, pw_gR15_0, pw_cV16, c_around1 C Wf, h4, not_true_eq_false]
      rw [if_neg (by omega)]
    · by_cases h0 : x = 0
      · subst h0
        have : ovr v own id b (ch v 1 0) = false := by rw [ch_0, ovr, if_neg h4, if_neg (by simp), ovr]
        rw [this]
        simp (discharger := omega) only [↓al_m, ↓al_m2, al_lit, al_add, al_mul, bd_some, bn_0, bn_1, bn_jz, al_le, al_eq, nm1_ne, nm1_ne', if_false, if_true, pw_gR15_0, pw_cV16, c_around1 C Wf, h4, not_false_eq_true]
        rw [if_neg (by omega), hL]
        unfold f_X10_isRuled_h6
        simp only [↓al_m, ↓al_m2, al_lit, al_add, al_mul, bd_some, bn_0, bn_1, bn_jz, if_true, ite_self]
        rfl
      · have hu := Wf.up1 x (by omega) hx
        have hk := Wf.uk x hx
        have e : ovr v own id b (ch v 1 x) = if v 21 x = own ∧ v 41 x = id then true else ovr v own id b (ch v 1 (v 21 x)) := by
          rw [ch_s1 Wf (by omega) hx, ovr, if_neg h4]
          simp [h0]
        simp (discharger := omega) only [↓al_m, ↓al_m2, al_lit, al_add, al_mul, bd_some, bn_0, bn_1, bn_jz, al_le, al_eq, nm1_ne, if_false, pw_gR15_0, pw_gR15_1, pw_cV16, c_around1 C Wf, h4, h0, not_false_eq_true, if_true, cr16, C.uk]
        rw [if_neg (by omega), e, ih _ hu (by omega) _ (f + 1) (by omega) (by omega)]
        by_cases h5 : v 21 x = own <;> by_cases h6 : v 41 x = id <;> simp [h5, h6, bn]
theorem c_ruled {h : jh} {w : Nat} {W : ms} {v : vw} (C : ClsV W v) (Wf : WFv v) (own id x : Nat) (b : Bool) (h1 : own < 100) (h2 : id < 100) (hx : x < v 11 0) : f_X10_isRuled (w + 15) (nI x) (nI own) (bn b) (nI id) (pw h w W) = some (bn (ovr v own id b (ch v 1 x)), pw h w W) := by
  have hc := Wf.c1
  obtain ⟨f, hf⟩ := jfu_s
  exact c_ruled_l C Wf own id b h1 h2 _ (fun _ => rfl) x hx 0 jfu (by omega) (by omega)
theorem c_rules {h : jh} {w : Nat} {W : ms} {v : vw} (C : ClsV W v) (Wf : WFv v) (p x : Nat) (hp : p < 16) (hp1 : v 0 p = 1) (hx : x < v 11 0) : f_X11_rules w (nI p) (nI x) (pw h w W) = some (bn (ovp v p x), pw h w W) := by
  have hc := Wf.c1
  have hq := Wf.pr p hp
  have e2 : W 2 p = nI (v 3 p) := C.pa p 2 hp (by decide)
  have e5 : W 5 p = nI (v 6 p) := C.pa p 5 hp (by decide)
  unfold f_X11_rules ovp
  simp (discharger := omega) only [↓al_m, ↓al_m2, al_lit, al_add, al_mul, bd_some, bn_0, bn_1, bn_jz, pw_gR0_2, pw_gR0_0, pw_gR1_2, pw_gR1_5, pw_cV1, pw_cV15, cr2, cr5, e2, e5, c_hasPower C, c_ruled C Wf, hp1, true_and]
