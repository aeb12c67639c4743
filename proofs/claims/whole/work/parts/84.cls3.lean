/-! the class's deeds: become, share, enter, create -/
def CD (h : jh) (w : Nat) (o : Option (Int32 × jh)) (d : Int32 × vw) : Prop := ∃ W', o = some (d.1, pw h w W') ∧ ClsV W' d.2
theorem CD_no {h : jh} {w : Nat} {W : ms} {v : vw} (C : ClsV W v) : CD h w (some (nm1, pw h w W)) (nm1, v) := ⟨W, rfl, C⟩
theorem c_setPower {h : jh} {w : Nat} {W : ms} (p : Nat) (b : Bool) (hp : p < 16) : ∃ r : Nat → Int32, f_X5_setPower (w + 1) (nI p) (bn b) (pw h w W) = some ((), pw h w (sw W 8 r)) ∧ ∀ i, i < 32 → hb (r 0) i = if i = p then b else hb (W 8 0) i := by
  cases b
  · refine ⟨fun _ => W 8 0 &&& (bI p ^^^ (-1)), ?_, ?_⟩
    · unfold f_X5_setPower
      rw [if_pos (show bn false = 0 by decide), pw_gI1_8, pw_pV1_8]
      rfl
    · intro i hi
      rw [hb_and, hb_xor, hb_m1 i hi, hb_bI p i (by omega) hi]
      by_cases h1 : i = p <;> simp [h1]
  · refine ⟨fun _ => W 8 0 ||| bI p, ?_, ?_⟩
    · unfold f_X5_setPower
      rw [if_neg (show ¬ bn true = 0 by decide), pw_gI1_8, pw_pV1_8]
      rfl
    · intro i hi
      rw [hb_or, hb_bI p i (by omega) hi]
      by_cases h1 : i = p <;> simp [h1]
theorem c_isId (x : Nat) (hx : x < 2147483648) (h : jh) : f_X12_isId (nI x) h = some (bn (decide (x < 100)), h) := by
  unfold f_X12_isId
  simp (discharger := omega) only [al_lit, al_lt, al_le]
  rw [if_neg (by omega)]
  by_cases h1 : x < 100
  · have : ¬ 100 ≤ x := by omega
    simp [h1, this, bn]
  · have : 100 ≤ x := by omega
    simp [h1, this, bn]
theorem c_isId' (x : Int32) (hx : x < 0 ∨ nI 100 ≤ x) (h : jh) : f_X12_isId x h = some (bn false, h) := by
  unfold f_X12_isId
  rcases hx with h1 | h1
  · rw [if_pos h1]; rfl
  · by_cases h2 : x < 0
    · rw [if_pos h2]; rfl
    · rw [if_neg h2, if_pos (show (100 : Int32) ≤ x from h1)]; rfl
theorem ClsV_pow' {W : ms} {v : vw} (C : ClsV W v) (B : Bd v) (p x : Nat) (b : Bool) (hp : p < 16) (hx : x ≤ 1) (hbx : b = decide (x = 1)) (hp1 : v 0 p = 1) (r : Nat → Int32) (hr : ∀ i, i < 32 → hb (r 0) i = if i = p then b else hb (W 8 0) i) : ClsV (sw W 8 r) (upv v 7 p x) := by
  refine ClsV_pow C B p x hp hx (fun f hf => sw_ne _ _ _ _ hf) ?_ (fun a j h => upv_ne _ _ _ _ _ _ h) (upv_eq _ _ _ _)
  intro i hi
  rw [sw_eq, hr i hi, hp1, hbx]
  simp
theorem ClsV_pa' {W : ms} {v : vw} (C : ClsV W v) (B : Bd v) (p k x : Nat) (hp : p < 16) (hk : k < 6) : ClsV (sw W k (upd (W k) p (nI x))) (upv v (k + 1) p x) :=
  ClsV_pa C B p k x hp hk (fun f hf => sw_ne _ _ _ _ hf) (sw_eq _ _ _) (fun a j h => upv_ne _ _ _ _ _ _ h) (upv_eq _ _ _ _)
theorem c_become {h : jh} {w : Nat} {W : ms} {v : vw} (C : ClsV W v) (Wf : WFv v) (p id : Nat) (hp : p < 16) (hp1 : v 0 p = 1) (hid : id < 100) : CD h w (f_X11_turnInto w (nI p) (nI id) (pw h w W)) (dBec v p id) := by
  have hq := Wf.pr p hp
  have h2 := owl_lt Wf (v 3 p) (by omega) id (by omega)
  have e2 : W 2 p = nI (v 3 p) := C.pa p 2 hp (by decide)
  unfold f_X11_turnInto f_X11_turnInto_b70 dBec
  simp (discharger := omega) only [↓al_m, ↓al_m2, al_lit, al_add, al_mul, bd_some, bn_0, bn_1, bn_jz, al_eq, pw_gR0_0, pw_cV1, c_hasPower C, c_isId, pw_gR0_2, pw_gR1_2, pw_gR1_5, cr2, e2, pw_cV15, c_out C Wf, cw5, hp1, true_and]
  generalize owl v (ch v 1 (v 3 p)) id = g at h2 ⊢
  by_cases h4 : v 7 p = 1
  · by_cases h5 : g = 65534
    · simp [h4, h5, hid]
      exact CD_no C
    · have C1 := ClsV_pa' C Wf.bd p 5 g hp (by decide)
      have B1 := Bd_up Wf.bd 6 p g (by omega)
      by_cases h6 : id = 0
      · obtain ⟨r, hr, hr2⟩ := c_setPower (h := h) (w := w) (W := sw W 5 (upd (W 5) p (nI g))) p true hp
        have hr' : f_X5_setPower (w + 1) (nI p) (nI 1) (pw h w (sw W 5 (upd (W 5) p (nI g)))) = _ := hr
        simp [h4, h5, h6, hr', bd_some]
        refine ⟨_, rfl, ?_⟩
        exact ClsV_pow' C1 B1 p 1 true hp (by omega) rfl (by rw [upv_ne _ _ _ _ _ _ (by omega)]; exact hp1) r hr2
      · obtain ⟨r, hr, hr2⟩ := c_setPower (h := h) (w := w) (W := sw W 5 (upd (W 5) p (nI g))) p false hp
        have hr' : f_X5_setPower (w + 1) (nI p) (nI 0) (pw h w (sw W 5 (upd (W 5) p (nI g)))) = _ := hr
        simp [h4, h5, h6, hid, hr', bd_some]
        refine ⟨_, rfl, ?_⟩
        exact ClsV_pow' C1 B1 p 0 false hp (by omega) rfl (by rw [upv_ne _ _ _ _ _ _ (by omega)]; exact hp1) r hr2
  · simp [h4]
    exact CD_no C
theorem c_become' {h : jh} {w : Nat} {W : ms} {v : vw} (C : ClsV W v) (Wf : WFv v) (p : Nat) (x : Int32) (hp : p < 16) (hx : x < 0 ∨ nI 100 ≤ x) : CD h w (f_X11_turnInto w (nI p) x (pw h w W)) (nm1, v) := by
  unfold f_X11_turnInto
  rw [pw_gR0_0, pw_cV1, c_hasPower C p hp, bd_some]
  cases decide (v 0 p = 1 ∧ v 7 p = 1)
  · rw [if_pos (by decide)]; exact CD_no C
  · rw [if_neg (by decide), c_isId' x hx, bd_some, if_neg (by decide)]; exact CD_no C
theorem c_isShared {h : jh} {w : Nat} {W : ms} {v : vw} (C : ClsV W v) (Wf : WFv v) (x : Nat) (hx : x < v 12 0) : f_X2_isShared (w + 23) (nI x) (pw h w W) = some (bn (decide (v 70 x = 1)), pw h w W) := by
  have hc := Wf.c2
  unfold f_X2_isShared
  rw [pw_gI23_3, c_holds _ x (by omega), bd_some, bn_jz, C.sh x (by omega)]
  simp [hx]
theorem c_share {h : jh} {w : Nat} {W : ms} {v : vw} (C : ClsV W v) (Wf : WFv v) (p : Nat) (hp : p < 16) (hp1 : v 0 p = 1) : CD h w (f_X11_turnSharing w (nI p) (pw h w W)) (dShr v p) := by
  have hc := Wf.c2
  have hq := Wf.pr p hp
  have hm := Wf.mk (v 4 p) (by omega)
  have e3 : W 3 p = nI (v 4 p) := C.pa p 3 hp (by decide)
  have C1 : ClsV (sw W 25 (fun _ => W 25 0 ^^^ bI (v 4 p))) (upv v 70 (v 4 p) (1 - v 70 (v 4 p))) := by
    refine ClsV_sh C Wf.bd (v 4 p) (by omega) (fun f hf => sw_ne _ _ _ _ hf) ?_ (fun a j h => upv_ne _ _ _ _ _ _ h)
    intro i hi
    rw [sw_eq, hb_xor, hb_bI _ i (by omega) hi, upv_eq]
    by_cases h1 : i = v 4 p
    · rw [if_pos h1, h1, C.sh _ (by omega)]
      have : v 70 (v 4 p) = 0 ∨ v 70 (v 4 p) = 1 := by omega
      rcases this with e | e <;> simp [e, show v 4 p < v 12 0 by omega]
    · rw [if_neg h1]; simp [h1]
  have W1 : (upv v 70 (v 4 p) (1 - v 70 (v 4 p))) 12 0 = v 12 0 := upv_ne _ _ _ _ _ _ (by omega)
  unfold f_X11_turnSharing dShr
  simp (discharger := omega) only [↓al_m, ↓al_m2, al_lit, al_add, al_mul, bd_some, bn_0, bn_1, bn_jz, pw_gR0_0, pw_gR1_3, cr3, e3, pw_gR0_3, pw_gR23_1, cr23, C.mk, pw_cV0, c_rules C Wf, pw_gI23_3, pw_pV23_3, bI_eq, pw_cV23]
  cases ovp v p (v 42 (v 4 p))
  · simp; exact CD_no C
  · simp only [not_false_eq_true, if_true, Bool.true_eq_false]
    have e4 : f_X2_isShared (w + 23) (nI (v 4 p)) (pw h w (sw W 25 (fun _ => W 25 0 ^^^ bI (v 4 p)))) = some (bn (decide (1 - v 70 (v 4 p) = 1)), pw h w (sw W 25 (fun _ => W 25 0 ^^^ bI (v 4 p)))) := by
      unfold f_X2_isShared
      rw [pw_gI23_3, c_holds _ _ (by omega), bd_some, bn_jz, C1.sh _ (by omega), W1, upv_eq]
      simp [show v 4 p < v 12 0 by omega]
    rw [e4, bd_some, c_bit, bd_some]
    refine ⟨_, ?_, C1⟩
    have : v 70 (v 4 p) = 0 ∨ v 70 (v 4 p) = 1 := by omega
    rcases this with e | e <;> simp [e, bn]
theorem c_canEnter {h : jh} {w : Nat} {W : ms} {v : vw} (C : ClsV W v) (Wf : WFv v) (M : SMv v) (p q kd : Nat) (hp : p < 16) (hp1 : v 0 p = 1) (hq : q < 16) (hk : kd < 3) : f_X11_canEnter w (nI p) (nI q) (nI kd) (pw h w W) = some (bn (decide (v 0 q = 1) && cneV v p q kd), pw h w W) := by
  have hc0 := Wf.c0
  have hc1 := Wf.c1
  have hc2 := Wf.c2
  have h1 := Wf.pr p hp
  have h2 := Wf.pr q hq
  have h3 := Wf.nk (v 2 q) (by omega)
  have h4 := Wf.mk (v 4 q) (by omega)
  have p1 : W 1 q = nI (v 2 q) := C.pa q 1 hq (by decide)
  have p2 : W 2 q = nI (v 3 q) := C.pa q 2 hq (by decide)
  have p3 : W 3 q = nI (v 4 q) := C.pa q 3 hq (by decide)
  have s2 : W 2 p = nI (v 3 p) := C.pa p 2 hp (by decide)
  have s3 : W 3 p = nI (v 4 p) := C.pa p 3 hp (by decide)
  have s4 : W 4 p = nI (v 5 p) := C.pa p 4 hp (by decide)
  unfold f_X11_canEnter
  rw [pw_gR0_0, pw_cV1, c_has C q hq, bd_some]
  by_cases hq1 : v 0 q = 1
  · rw [decide_eq_true hq1, if_neg (by decide), Bool.true_and]
    unfold cneV
    by_cases h5 : p = q
    · rw [if_pos (by rw [h5])]; simp [h5]; rfl
    · rw [if_neg (show ¬ nI p = nI q from fun e => h5 ((al_eq (by omega) (by omega)).mp e)), pw_cV0, c_sees C Wf p q hp hq, bd_some]
      cases hs : sesV v p q
      · rw [if_neg (by decide)]; simp; rfl
      · have hin : inL v (v 2 q) (v 2 p) = true := by
          unfold sesV at hs
          have := M.nw q (v 2 p) hq (by omega) hq1 (by simpa using hs)
          unfold inL
          exact decide_eq_true this.2
        rw [if_pos (by decide), pw_gR0_0, pw_gR1_1, cr1 _ _ _ _ _ hq, pw_gR0_0, pw_gR1_2, cr2 _ _ _ _ _ hq, pw_gR0_0, pw_gR1_3, cr3 _ _ _ _ _ hq, p1, p2, p3]
        have : kd = 0 ∨ kd = 1 ∨ kd = 2 := by omega
        rcases this with rfl | rfl | rfl
        · rw [if_pos (show nI 0 = 0 from rfl)]
          simp (discharger := omega) only [↓al_m, ↓al_m2, al_lit, al_add, al_mul, bd_some, bn_0, bn_1, bn_jz, al_eq, pw_gR0_0, pw_gR0_1, pw_cV0, pw_cV9, pw_gR1_4, cr4, s4, c_isDead C Wf, pw_gR9_1, cr11, C.nk, c_rules C Wf]
          cases ovp v p (v 40 (v 2 q)) <;> by_cases h6 : v 51 (v 2 q) = 1 <;> by_cases h7 : v 5 p = v 2 q <;> simp [h5, h6, h7, hin, bn]
        · rw [if_neg (show ¬ nI 1 = 0 by decide), if_pos (show nI 1 = 1 from rfl)]
          simp (discharger := omega) only [↓al_m, ↓al_m2, al_lit, al_add, al_mul, bd_some, bn_0, bn_1, bn_jz, al_eq, pw_gR0_0, pw_cV0, pw_gR1_2, cr2, s2, c_rules C Wf]
          cases ovp v p (v 3 q) <;> by_cases h6 : v 3 p = v 3 q <;> simp [h5, h6, bn]
        · rw [if_neg (show ¬ nI 2 = 0 by decide), if_neg (show ¬ nI 2 = 1 by decide), if_pos (show nI 2 = 2 from rfl)]
          simp (discharger := omega) only [↓al_m, ↓al_m2, al_lit, al_add, al_mul, bd_some, bn_0, bn_1, bn_jz, al_eq, pw_gR0_0, pw_gR0_3, pw_cV0, pw_cV1, pw_gR1_3, cr3, s3, c_rules C Wf, c_hasPower C, pw_gR23_1, cr23, C.mk, hp1, true_and]
          cases ovp v p (v 42 (v 4 q)) <;> by_cases h6 : v 7 p = 1 <;> by_cases h7 : v 4 p = v 4 q <;> simp [h5, h6, h7, bn]
  · rw [decide_eq_false hq1, if_pos (by decide), Bool.false_and]; rfl
theorem c_canEnter' {h : jh} {w : Nat} {W : ms} {v : vw} (C : ClsV W v) (Wf : WFv v) (p : Nat) (x y : Int32) (hp : p < 16) (hxy : (x < 0 ∨ nI 16 ≤ x) ∨ (y < 0 ∨ nI 3 ≤ y)) : f_X11_canEnter w (nI p) x y (pw h w W) = some (bn false, pw h w W) := by
  have hc0 := Wf.c0
  unfold f_X11_canEnter
  rcases i_cases x 16 (by decide) with ⟨q, hq, rfl⟩ | ho
  · have hy : y < 0 ∨ nI 3 ≤ y := by
      rcases hxy with h1 | h1
      · exfalso
        rcases h1 with h1 | h1
        · exact nI_pos (by omega) h1
        · rw [al_le (by omega) (by omega)] at h1; omega
      · exact h1
    have ny : ∀ j, j < 3 → ¬ y = nI j := by
      intro j hj e
      rw [e] at hy
      rcases hy with h1 | h1
      · exact nI_pos (by omega) h1
      · rw [al_le (by omega) (by omega)] at h1; omega
    have h2 := Wf.pr q hq
    rw [pw_gR0_0, pw_cV1, c_has C q hq, bd_some]
    cases decide (v 0 q = 1)
    · rw [if_pos (by decide)]; rfl
    · rw [if_neg (by decide)]
      by_cases h5 : nI p = nI q
      · rw [if_pos h5]; rfl
      · rw [if_neg h5, pw_cV0, c_sees C Wf p q hp hq, bd_some]
        cases sesV v p q
        · rw [if_neg (by decide)]; rfl
        · rw [if_pos (by decide), pw_gR0_0, pw_gR1_1, cr1 _ _ _ _ _ hq, pw_gR0_0, pw_gR1_2, cr2 _ _ _ _ _ hq, pw_gR0_0, pw_gR1_3, cr3 _ _ _ _ _ hq, if_neg (show ¬ y = 0 from ny 0 (by decide)), if_neg (show ¬ y = 1 from ny 1 (by decide)), if_neg (show ¬ y = 2 from ny 2 (by decide))]
          rfl
  · rw [pw_gR0_0, pw_cV1, c_has' x ho, bd_some, if_pos (by decide)]; rfl
theorem c_enter {h : jh} {w : Nat} {W : ms} {v : vw} (C : ClsV W v) (Wf : WFv v) (M : SMv v) (p q kd : Nat) (hp : p < 16) (hp1 : v 0 p = 1) (hq : q < 16) (hk : kd < 3) : CD h w (f_X11_goInto w (nI p) (nI q) (nI kd) (pw h w W)) (dEnt v p q kd) := by
  have h2 := Wf.pr q hq
  have p1 : W 1 q = nI (v 2 q) := C.pa q 1 hq (by decide)
  have p2 : W 2 q = nI (v 3 q) := C.pa q 2 hq (by decide)
  have p3 : W 3 q = nI (v 4 q) := C.pa q 3 hq (by decide)
  unfold f_X11_goInto dEnt
  rw [pw_cV0, c_canEnter C Wf M p q kd hp hp1 hq hk, bd_some]
  by_cases hq1 : v 0 q = 1
  · cases hC : cneV v p q kd
    · rw [decide_eq_true hq1, if_neg (by decide), if_neg (by simp)]; exact CD_no C
    · rw [decide_eq_true hq1, if_pos (by decide), if_pos (show kd < 3 ∧ q < 16 ∧ v 0 q = 1 ∧ true = true from ⟨hk, hq, hq1, rfl⟩)]
      have : kd = 0 ∨ kd = 1 ∨ kd = 2 := by omega
      rcases this with rfl | rfl | rfl
      · simp (discharger := omega) only [↓al_m, ↓al_m2, al_lit, al_add, al_mul, bd_some, bn_0, bn_1, bn_jz, al_eq, if_true, pw_gR0_0, pw_gR1_4, pw_gR1_1, cr1, cr4, cw4, p1, sw_eq, upd_at]
        exact ⟨_, rfl, ClsV_pa' C Wf.bd p 4 _ hp (by decide)⟩
      · obtain ⟨r, hr, hr2⟩ := c_setPower (h := h) (w := w) (W := sw W 2 (upd (W 2) p (nI (v 3 q)))) p true hp
        have hr' : f_X5_setPower (w + 1) (nI p) (nI 1) (pw h w (sw W 2 (upd (W 2) p (nI (v 3 q))))) = _ := hr
        simp (discharger := omega) only [↓al_m, ↓al_m2, al_lit, al_add, al_mul, bd_some, bn_0, bn_1, bn_jz, al_eq, if_true, if_false, Nat.one_ne_zero, pw_gR0_0, pw_gR1_2, pw_cV1, cr2, cw2, p2, hr', sw_ne, sw_eq, upd_at]
        exact ⟨_, rfl, ClsV_pow' (ClsV_pa' C Wf.bd p 2 _ hp (by decide)) (Bd_up Wf.bd 3 _ _ (by omega)) p 1 true hp (by omega) rfl (by rw [upv_ne _ _ _ _ _ _ (by omega)]; exact hp1) r hr2⟩
      · have h20 : (2 = 0) = False := by decide
        have h21 : (2 = 1) = False := by decide
        simp (discharger := omega) only [↓al_m, ↓al_m2, al_lit, al_add, al_mul, bd_some, bn_0, bn_1, bn_jz, al_eq, h20, h21, if_false, pw_gR0_0, pw_gR1_3, cr3, cw3, p3, sw_eq, upd_at]
        exact ⟨_, rfl, ClsV_pa' C Wf.bd p 3 _ hp (by decide)⟩
  · rw [decide_eq_false hq1, Bool.false_and, if_neg (by decide), if_neg (fun e => hq1 e.2.2.1)]; exact CD_no C
theorem c_enter' {h : jh} {w : Nat} {W : ms} {v : vw} (C : ClsV W v) (Wf : WFv v) (p : Nat) (x y : Int32) (hp : p < 16) (hxy : (x < 0 ∨ nI 16 ≤ x) ∨ (y < 0 ∨ nI 3 ≤ y)) : CD h w (f_X11_goInto w (nI p) x y (pw h w W)) (nm1, v) := by
  unfold f_X11_goInto
  rw [pw_cV0, c_canEnter' C Wf p x y hp hxy, bd_some, if_neg (by decide)]
  exact CD_no C
theorem c_grow0 {h : jh} {w : Nat} {W : ms} {v : vw} (C : ClsV W v) (Wf : WFv v) (s : Nat) (hs : s < v 10 0) : f_X9_growAt (w + 10) (nI s) (pw h w W) = if v 10 0 = 8 ∨ v 30 s = 4 then some (nm1, pw h w W) else some (nI (v 10 0), pw h w (sw (sw W 9 (upd (W 9) (v 10 0) (nI s))) 10 (fun _ => nI (v 10 0 + 1)))) := by
  have hc := Wf.c0
  have hd := Wf.df0 s hs
  unfold f_X9_growAt f_X9_canGrowAt
  simp (discharger := omega) only [↓al_m, ↓al_m2, al_lit, al_add, al_mul, bd_some, bn_0, bn_1, bn_jz, al_le, pw_cV10, c_treeHas0 C Wf, pw_gI10_1, C.c0, c_depth0 C Wf]
  rw [if_neg (by simp [hs])]
  by_cases h1 : v 10 0 = 8
  · rw [if_pos (by omega), bd_some, if_neg (by decide), if_pos (Or.inl h1)]
  · rw [if_neg (by omega)]
    by_cases h2 : v 30 s = 4
    · rw [if_pos (by omega), bd_some, if_neg (by decide), if_pos (Or.inr h2)]
    · rw [if_neg (by omega), bd_some, if_pos (by decide), if_neg (by omega)]
      simp (discharger := omega) only [↓al_m, ↓al_m2, al_lit, al_add, al_mul, bd_some, bn_0, bn_1, bn_jz, pw_gR10_0, pw_gI10_1, C.c0, cw9, pw_pV10_1, sw_ne, sw_eq, al_sub, Nat.add_sub_cancel]
theorem c_grow1 {h : jh} {w : Nat} {W : ms} {v : vw} (C : ClsV W v) (Wf : WFv v) (s : Nat) (hs : s < v 11 0) : f_X9_growAt (w + 16) (nI s) (pw h w W) = if v 11 0 = 8 ∨ v 31 s = 4 then some (nm1, pw h w W) else some (nI (v 11 0), pw h w (sw (sw W 14 (upd (W 14) (v 11 0) (nI s))) 15 (fun _ => nI (v 11 0 + 1)))) := by
  have hc := Wf.c1
  have hd := Wf.df1 s hs
  unfold f_X9_growAt f_X9_canGrowAt
  simp (discharger := omega) only [↓al_m, ↓al_m2, al_lit, al_add, al_mul, bd_some, bn_0, bn_1, bn_jz, al_le, pw_cV16, c_treeHas1 C Wf, pw_gI16_1, C.c1, c_depth1 C Wf]
  rw [if_neg (by simp [hs])]
  by_cases h1 : v 11 0 = 8
  · rw [if_pos (by omega), bd_some, if_neg (by decide), if_pos (Or.inl h1)]
  · rw [if_neg (by omega)]
    by_cases h2 : v 31 s = 4
    · rw [if_pos (by omega), bd_some, if_neg (by decide), if_pos (Or.inr h2)]
    · rw [if_neg (by omega), bd_some, if_pos (by decide), if_neg (by omega)]
      simp (discharger := omega) only [↓al_m, ↓al_m2, al_lit, al_add, al_mul, bd_some, bn_0, bn_1, bn_jz, pw_gR16_0, pw_gI16_1, C.c1, cw14, pw_pV16_1, sw_ne, sw_eq, al_sub, Nat.add_sub_cancel]
theorem c_grow2 {h : jh} {w : Nat} {W : ms} {v : vw} (C : ClsV W v) (Wf : WFv v) (s : Nat) (hs : s < v 12 0) : f_X9_growAt (w + 24) (nI s) (pw h w W) = if v 12 0 = 8 ∨ v 32 s = 4 then some (nm1, pw h w W) else some (nI (v 12 0), pw h w (sw (sw W 21 (upd (W 21) (v 12 0) (nI s))) 22 (fun _ => nI (v 12 0 + 1)))) := by
  have hc := Wf.c2
  have hd := Wf.df2 s hs
  unfold f_X9_growAt f_X9_canGrowAt
  simp (discharger := omega) only [↓al_m, ↓al_m2, al_lit, al_add, al_mul, bd_some, bn_0, bn_1, bn_jz, al_le, pw_cV24, c_treeHas2 C Wf, pw_gI24_1, C.c2, c_depth2 C Wf]
  rw [if_neg (by simp [hs])]
  by_cases h1 : v 12 0 = 8
  · rw [if_pos (by omega), bd_some, if_neg (by decide), if_pos (Or.inl h1)]
  · rw [if_neg (by omega)]
    by_cases h2 : v 32 s = 4
    · rw [if_pos (by omega), bd_some, if_neg (by decide), if_pos (Or.inr h2)]
    · rw [if_neg (by omega), bd_some, if_pos (by decide), if_neg (by omega)]
      simp (discharger := omega) only [↓al_m, ↓al_m2, al_lit, al_add, al_mul, bd_some, bn_0, bn_1, bn_jz, pw_gR24_0, pw_gI24_1, C.c2, cw21, pw_pV24_1, sw_ne, sw_eq, al_sub, Nat.add_sub_cancel]
theorem c_createU {h : jh} {w : Nat} {W : ms} {v : vw} (C : ClsV W v) (Wf : WFv v) (p : Nat) (hp : p < 16) (hp1 : v 0 p = 1) : CD h w (f_X11_makeUserSpace w (nI p) (pw h w W)) (dCrU v p) := by
  have hc := Wf.c1
  have hq := Wf.pr p hp
  have e2 : W 2 p = nI (v 3 p) := C.pa p 2 hp (by decide)
  have e5 : W 5 p = nI (v 6 p) := C.pa p 5 hp (by decide)
  unfold f_X11_makeUserSpace dCrU
  rw [pw_gR0_2, pw_gR15_0, pw_gR0_0, pw_gR1_2, cr2 _ _ _ _ _ hp, e2, pw_cV16, c_grow1 C Wf _ hq.2.2.1]
  by_cases h0 : v 11 0 = 8 ∨ v 31 (v 3 p) = 4
  · rw [if_pos h0, if_pos h0, bd_some, if_neg (by decide)]; exact CD_no C
  · rw [if_neg h0, if_neg h0, bd_some, if_pos (show ¬ nI (v 11 0) = -1 from fun e => (nm1_ne (n := v 11 0) (by omega)).mp e)]
    have ex : v (10 + 1) 0 = v 11 0 := rfl
    simp (discharger := omega) only [↓al_m, ↓al_m2, al_lit, al_add, al_mul, bd_some, bn_0, bn_1, bn_jz, pw_gR0_2, pw_gR15_1, pw_gR15_2, pw_gR0_0, pw_gR1_5, pw_gR1_2, cr5, sw_ne, sw_eq, e5, cw16, cw17, cw2, pw_cV1]
    obtain ⟨r, hr, hr2⟩ := c_setPower (h := h) (w := w) (W := sw (sw (sw (sw (sw W 14 (upd (W 14) (v 11 0) (nI (v 3 p)))) 15 fun x => nI (v 11 0 + 1)) 16 (upd (W 16) (v 11 0) (nI (v 6 p)))) 17 (upd (W 17) (v 11 0) (nI 0))) 2 (upd (W 2) p (nI (v 11 0)))) p true hp
    have hr' : f_X5_setPower (w + 1) (nI p) (nI 1) (pw h w (sw (sw (sw (sw (sw W 14 (upd (W 14) (v 11 0) (nI (v 3 p)))) 15 fun x => nI (v 11 0 + 1)) 16 (upd (W 16) (v 11 0) (nI (v 6 p)))) 17 (upd (W 17) (v 11 0) (nI 0))) 2 (upd (W 2) p (nI (v 11 0))))) = _ := hr
    rw [hr', bd_some]
    have C1 : ClsV (sw (sw (sw (sw W 14 (upd (W 14) (v 11 0) (nI (v 3 p)))) 15 fun x => nI (v 11 0 + 1)) 16 (upd (W 16) (v 11 0) (nI (v 6 p)))) 17 (upd (W 17) (v 11 0) (nI 0))) (bgn v 1 (v 3 p) (v 6 p)) := by
      refine ClsV_bgn1 C Wf.bd (v 3 p) (v 6 p) hc.1 (by omega) (bgn_ct v 1 _ _) (bgn_ar v 1 _ _) (bgn_kp v 1 _ _) ?_ ?_ ?_ ?_ ?_ ?_ (bgn_60 v _ _) ?_ ?_ ?_
      · simp (discharger := omega) only [sw_ne, sw_eq]
      · simp (discharger := omega) only [sw_ne, sw_eq, upd_at]
      · intro j hj; simp (discharger := omega) only [sw_ne, sw_eq, upd_ne']
      · simp (discharger := omega) only [sw_ne, sw_eq, upd_at]
      · intro j hj; simp (discharger := omega) only [sw_ne, sw_eq, upd_ne']
      · intro f h1 h2 h3 h4; simp (discharger := omega) only [sw_ne]
      · simp (discharger := omega) only [sw_ne, sw_eq, upd_at]
      · intro j hj; simp (discharger := omega) only [sw_ne, sw_eq, upd_ne']
      · intro a j hj; exact bgn_ne _ _ _ _ _ _ (by omega)
    have B1 := bgn_bd Wf.bd 1 (v 3 p) (v 6 p) (by decide) (by omega)
    have C2 := ClsV_pa' C1 B1 p 2 (v 11 0) hp (by decide)
    have C3 := ClsV_pow' C2 (Bd_up B1 3 p (v 11 0) (by omega)) p 1 true hp (by omega) rfl (by rw [upv_ne _ _ _ _ _ _ (by omega), bgn_ne _ _ _ _ _ _ (by omega)]; exact hp1) r (by
      intro i hi
      rw [hr2 i hi]
      simp (discharger := omega) only [sw_ne])
    refine ⟨_, rfl, ?_⟩
    have e : (sw (sw (sw (sw W 14 (upd (W 14) (v 11 0) (nI (v 3 p)))) 15 fun x => nI (v 11 0 + 1)) 16 (upd (W 16) (v 11 0) (nI (v 6 p)))) 17 (upd (W 17) (v 11 0) (nI 0))) 2 = W 2 := by simp (discharger := omega) only [sw_ne]
    rw [e] at C3
    exact C3
theorem c_createN {h : jh} {w : Nat} {W : ms} {v : vw} (C : ClsV W v) (Wf : WFv v) (p : Nat) (hp : p < 16) (hp1 : v 0 p = 1) : CD h w (f_X11_makeNumberSpace w (nI p) (pw h w W)) (dCrN v p) := by
  have hc := Wf.c0
  have hq := Wf.pr p hp
  have e1 : W 1 p = nI (v 2 p) := C.pa p 1 hp (by decide)
  have e2 : W 2 p = nI (v 3 p) := C.pa p 2 hp (by decide)
  have e4 : W 4 p = nI (v 5 p) := C.pa p 4 hp (by decide)
  unfold f_X11_makeNumberSpace dCrN
  simp (discharger := omega) only [↓al_m, ↓al_m2, al_lit, al_add, al_mul, bd_some, bn_0, bn_1, bn_jz, pw_gR0_0, pw_gR1_1, cr1, e1, pw_cV1, c_hasPower C, pw_gR1_4, cr4, e4, al_eq, pw_gR0_1, pw_gR9_0, pw_cV10, c_grow0 C Wf, hp1, true_and]
  by_cases h7 : v 7 p = 1
  · rw [decide_eq_true h7, if_neg (by simp)]
    by_cases h5 : v 5 p = v 2 p
    · rw [if_pos h5]
      by_cases h0 : v 10 0 = 8 ∨ v 30 (v 2 p) = 4
      · rw [if_pos h0, if_pos (Or.inr (Or.inr h0)), bd_some, if_neg (by simp)]; exact CD_no C
      · rw [if_neg h0, if_neg (by omega), bd_some, if_pos (show ¬ nI (v 10 0) = nm1 from fun e => (nm1_ne (n := v 10 0) (by omega)).mp e)]
        have ex : v (10 + 0) 0 = v 10 0 := rfl
        simp (discharger := omega) only [↓al_m, ↓al_m2, al_lit, al_add, al_mul, bd_some, bn_0, bn_1, bn_jz, pw_gR0_1, pw_gR9_1, pw_gR0_0, pw_gR1_2, pw_gR1_4, cr2, sw_ne, sw_eq, e2, cw11, cw4]
        have C1 : ClsV (sw (sw (sw W 9 (upd (W 9) (v 10 0) (nI (v 2 p)))) 10 fun x => nI (v 10 0 + 1)) 11 (upd (W 11) (v 10 0) (nI (v 3 p)))) (bgn v 0 (v 2 p) (v 3 p)) := by
          refine ClsV_bgn0 C Wf.bd (v 2 p) (v 3 p) hc.1 (by omega) (bgn_ct v 0 _ _) (bgn_ar v 0 _ _) (bgn_kp v 0 _ _) ?_ ?_ ?_ ?_ ?_ ?_ (bgn_50 v _ _) (bgn_51 v _ _) ?_
          · simp (discharger := omega) only [sw_ne, sw_eq]
          · simp (discharger := omega) only [sw_ne, sw_eq, upd_at]
          · intro j hj; simp (discharger := omega) only [sw_ne, sw_eq, upd_ne']
          · simp (discharger := omega) only [sw_ne, sw_eq, upd_at]
          · intro j hj; simp (discharger := omega) only [sw_ne, sw_eq, upd_ne']
          · intro f h1 h2 h3; simp (discharger := omega) only [sw_ne]
          · intro a j hj; exact bgn_ne _ _ _ _ _ _ (by omega)
        have B1 := bgn_bd Wf.bd 0 (v 2 p) (v 3 p) (by decide) (by omega)
        have C2 := ClsV_pa' C1 B1 p 4 (v 10 0) hp (by decide)
        have e : (sw (sw (sw W 9 (upd (W 9) (v 10 0) (nI (v 2 p)))) 10 fun x => nI (v 10 0 + 1)) 11 (upd (W 11) (v 10 0) (nI (v 3 p)))) 4 = W 4 := by simp (discharger := omega) only [sw_ne]
        rw [e] at C2
        exact ⟨_, rfl, C2⟩
    · rw [if_neg h5, if_pos (Or.inr (Or.inl h5))]; exact CD_no C
  · rw [decide_eq_false h7, if_pos rfl, if_pos (by omega)]; exact CD_no C
theorem c_cpt_l {h : jh} {w : Nat} {W : ms} (x y : Nat) (hx : x < 8) (hy : y < 8) (hxy : x ≠ y) (L : Nat → Nat → Int32 → Int32 → Int32 → jh → Option (Unit × jh)) (hL : ∀ f, L (f + 1) = f_X2_copyThings_h2 (fun  h6 => some ((), h6)) (L f)) : ∀ k i n f, i + k = 8 → k + 1 ≤ f → ∃ n', L f (w + 23) (nI x) (nI y) (nI i) (pw h w (sw W 24 n)) = some ((), pw h w (sw W 24 n')) ∧ (∀ j, ¬ (8 * y + i ≤ j ∧ j < 8 * y + 8) → n' j = n j) ∧ (∀ j, i ≤ j → j < 8 → n' (8 * y + j) = n (8 * x + j)) := by
  intro k
  induction k with
  | zero =>
    intro i n f hi hf
    obtain ⟨f, rfl⟩ : ∃ g, f = g + 1 := ⟨f - 1, by omega⟩
    refine ⟨n, ?_, fun _ _ => rfl, fun j h1 h2 => by omega⟩
    rw [hL]
    unfold f_X2_copyThings_h2
    simp (discharger := omega) only [↓al_m, ↓al_m2, al_lit, al_add, al_mul, bd_some, bn_0, bn_1, bn_jz, al_le]
    rw [if_pos (by omega)]
  | succ k ih =>
    intro i n f hi hf
    obtain ⟨f, rfl⟩ : ∃ g, f = g + 1 := ⟨f - 1, by omega⟩
    obtain ⟨n', e, N, T⟩ := ih (i + 1) (upd n (8 * y + i) (n (8 * x + i))) f (by omega) (by omega)
    refine ⟨n', ?_, ?_, ?_⟩
    · rw [hL]
      unfold f_X2_copyThings_h2
      simp (discharger := omega) only [↓al_m, ↓al_m2, al_lit, al_add, al_mul, bd_some, bn_0, bn_1, bn_jz, al_le, pw_gR23_2, cr24, cw24, sw_eq, sw_sw, Nat.mul_comm x 8, Nat.mul_comm y 8]
      rw [if_neg (by omega)]
      exact e
    · intro j hj
      rw [N j (by omega), upd_ne' _ _ _ _ (by omega)]
    · intro j h1 h2
      by_cases h3 : j = i
      · subst h3; rw [N _ (by omega), upd_eq']
      · rw [T j (by omega) h2, upd_ne' _ _ _ _ (by omega)]
theorem c_createM {h : jh} {w : Nat} {W : ms} {v : vw} (C : ClsV W v) (Wf : WFv v) (p : Nat) (hp : p < 16) (hp1 : v 0 p = 1) : CD h w (f_X11_makeMountSpace w (nI p) (pw h w W)) (dCrM v p) := by
  have hc := Wf.c2
  have hq := Wf.pr p hp
  have e2 : W 2 p = nI (v 3 p) := C.pa p 2 hp (by decide)
  have e3 : W 3 p = nI (v 4 p) := C.pa p 3 hp (by decide)
  obtain ⟨f, hf⟩ := jfu_s
  unfold f_X11_makeMountSpace dCrM
  simp (discharger := omega) only [↓al_m, ↓al_m2, al_lit, al_add, al_mul, bd_some, bn_0, bn_1, bn_jz, pw_gR0_0, pw_gR1_3, cr3, e3, pw_cV1, c_hasPower C, pw_gR0_3, pw_gR23_0, pw_cV24, c_grow2 C Wf, hp1, true_and]
  by_cases h7 : v 7 p = 1
  · rw [decide_eq_true h7, if_pos (by simp)]
    by_cases h0 : v 12 0 = 8 ∨ v 32 (v 4 p) = 4
    · rw [if_pos h0, if_pos (Or.inr h0), bd_some, if_neg (by simp)]; exact CD_no C
    · rw [if_neg h0, if_neg (by omega), bd_some, if_pos (show ¬ nI (v 12 0) = nm1 from fun e => (nm1_ne (n := v 12 0) (by omega)).mp e)]
      have ex : v (10 + 2) 0 = v 12 0 := rfl
      simp (discharger := omega) only [↓al_m, ↓al_m2, al_lit, al_add, al_mul, bd_some, bn_0, bn_1, bn_jz, pw_gR0_3, pw_gR23_1, pw_gR0_0, pw_gR1_2, cr2, sw_ne, sw_eq, e2, cw23, pw_cV23]
      obtain ⟨n', en, N, T⟩ := c_cpt_l (h := h) (w := w) (W := sw (sw (sw W 21 (upd (W 21) (v 12 0) (nI (v 4 p)))) 22 fun x => nI (v 12 0 + 1)) 23 (upd (W 23) (v 12 0) (nI (v 3 p)))) (v 4 p) (v 12 0) (by omega) (by omega) (by omega) (jlp4 (f_X2_copyThings_h2 (fun  h6 => some ((), h6)))) (fun _ => rfl) 8 0 (W 24) jfu (by omega) (by omega)
      have e24 : sw (sw (sw (sw W 21 (upd (W 21) (v 12 0) (nI (v 4 p)))) 22 fun x => nI (v 12 0 + 1)) 23 (upd (W 23) (v 12 0) (nI (v 3 p)))) 24 (W 24) = sw (sw (sw W 21 (upd (W 21) (v 12 0) (nI (v 4 p)))) 22 fun x => nI (v 12 0 + 1)) 23 (upd (W 23) (v 12 0) (nI (v 3 p))) := by
        have : W 24 = (sw (sw (sw W 21 (upd (W 21) (v 12 0) (nI (v 4 p)))) 22 fun x => nI (v 12 0 + 1)) 23 (upd (W 23) (v 12 0) (nI (v 3 p)))) 24 := by simp (discharger := omega) only [sw_ne]
        rw [this, sw_id]
      rw [e24] at en
      have en' : f_X2_copyThings (w + 23) (nI (v 4 p)) (nI (v 12 0)) (pw h w (sw (sw (sw W 21 (upd (W 21) (v 12 0) (nI (v 4 p)))) 22 fun x => nI (v 12 0 + 1)) 23 (upd (W 23) (v 12 0) (nI (v 3 p))))) = _ := en
      rw [en', bd_some]
      simp (discharger := omega) only [↓al_m, ↓al_m2, al_lit, al_add, al_mul, bd_some, bn_0, bn_1, bn_jz, pw_gR0_0, pw_gR1_3, cw3, sw_ne]
      have C1 : ClsV (sw (sw (sw (sw W 21 (upd (W 21) (v 12 0) (nI (v 4 p)))) 22 fun x => nI (v 12 0 + 1)) 23 (upd (W 23) (v 12 0) (nI (v 3 p)))) 24 n') (bgn v 2 (v 4 p) (v 3 p)) := by
        refine ClsV_bgn2 C Wf.bd (v 4 p) (v 3 p) hc.1 (by omega) (bgn_ct v 2 _ _) (bgn_ar v 2 _ _) (bgn_kp v 2 _ _) ?_ ?_ ?_ ?_ ?_ ?_ (bgn_70 v _ _) ?_ ?_ ?_
        · simp (discharger := omega) only [sw_ne, sw_eq]
        · simp (discharger := omega) only [sw_ne, sw_eq, upd_at]
        · intro j hj; simp (discharger := omega) only [sw_ne, sw_eq, upd_ne']
        · simp (discharger := omega) only [sw_ne, sw_eq, upd_at]
        · intro j hj; simp (discharger := omega) only [sw_ne, sw_eq, upd_ne']
        · intro f h1 h2 h3 h4; simp (discharger := omega) only [sw_ne]
        · intro i hi; rw [sw_eq, T i (by omega) hi, bgn_71 _ _ _ _ hi, C.tg (v 4 p) i (by omega) hi]
        · intro j hj; rw [sw_eq, N j (by omega)]
        · intro a j hj; exact bgn_ne _ _ _ _ _ _ (by omega)
      have B1 := bgn_bd Wf.bd 2 (v 4 p) (v 3 p) (by decide) (by omega)
      have C2 := ClsV_pa' C1 B1 p 3 (v 12 0) hp (by decide)
      have e : (sw (sw (sw (sw W 21 (upd (W 21) (v 12 0) (nI (v 4 p)))) 22 fun x => nI (v 12 0 + 1)) 23 (upd (W 23) (v 12 0) (nI (v 3 p)))) 24 n') 3 = W 3 := by simp (discharger := omega) only [sw_ne]
      rw [e] at C2
      exact ⟨_, rfl, C2⟩
  · rw [decide_eq_false h7, if_neg (by simp), if_pos (by omega)]; exact CD_no C
