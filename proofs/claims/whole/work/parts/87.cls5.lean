/-! the class's deeds: end, kill -/
theorem c_fall_l {h : jh} {w : Nat} {W : ms} {v : vw} (C : ClsV W v) (Wf : WFv v) (p : Nat) (hp : p < 16) (L : Nat → Nat → Int32 → Int32 → Int32 → jh → Option (Int32 × jh)) (hL : ∀ f, L (f + 1) = f_X11_fallOf_h20 (fun y22 h21 => some (y22, h21)) (L f)) : ∀ k i a f, i + k = 16 → k + 1 ≤ f → L f w (nI p) a (nI i) (pw h w W) = some (bts (fun q => decide (v 0 q = 1) && inL v (v 2 q) (v 2 p)) k i a, pw h w W) := by
  have hc := Wf.c0
  have h1 := Wf.pr p hp
  have e1 : W 1 p = nI (v 2 p) := C.pa p 1 hp (by decide)
  intro k
  induction k with
  | zero =>
    intro i a f hi hf
    obtain ⟨f, rfl⟩ : ∃ g, f = g + 1 := ⟨f - 1, by omega⟩
    rw [hL]
    unfold f_X11_fallOf_h20
    simp (discharger := omega) only [↓al_m, ↓al_m2, al_lit, al_add, al_mul, bd_some, bn_0, bn_1, bn_jz, al_le]
    rw [if_pos (by omega), bts]
  | succ k ih =>
    intro i a f hi hf
    obtain ⟨f, rfl⟩ : ∃ g, f = g + 1 := ⟨f - 1, by omega⟩
    rw [hL]
    unfold f_X11_fallOf_h20
    have h2 := Wf.pr i (by omega)
    have e2 : W 1 i = nI (v 2 i) := C.pa i 1 (by omega) (by decide)
    simp (discharger := omega) only [↓al_m, ↓al_m2, al_lit, al_add, al_mul, bd_some, bn_0, bn_1, bn_jz, al_le, pw_gR0_0, pw_gR0_1, pw_cV1, c_has C, pw_gR9_0, pw_gR1_1, cr1, e1, e2, pw_cV10, c_under C Wf, bI_eq]
    rw [if_neg (by omega), bts, ih _ _ f (by omega) (by omega), ih _ _ f (by omega) (by omega)]
    by_cases h4 : v 0 i = 1 <;> by_cases h5 : inL v (v 2 i) (v 2 p) = true <;> simp [h4, h5]
theorem c_fallOf {h : jh} {w : Nat} {W : ms} {v : vw} (C : ClsV W v) (Wf : WFv v) (p : Nat) (hp : p < 16) : f_X11_fallOf w (nI p) (pw h w W) = some (if p = 0 then nI 0 else fll v p, pw h w W) := by
  obtain ⟨f, hf⟩ := jfu_s
  unfold f_X11_fallOf
  by_cases h0 : p = 0
  · subst h0
    rw [if_neg (by simp [al_0]), if_pos rfl]; rfl
  · rw [if_pos (show ¬ nI p = (0 : Int32) from mt (iff_of_eq (al_eq (b := 0) (by omega) (by omega))).mp h0), pw_cV0, c_isInit C Wf p hp, bd_some, if_neg h0]
    cases hi : isIni v p
    · rw [if_pos (by decide)]
      unfold fll
      rw [bts_none (fun j => by simp [hi])]
      rfl
    · rw [if_neg (by decide)]
      refine (c_fall_l C Wf p hp _ (fun _ => rfl) 16 0 (bI p) jfu (by omega) (by omega)).trans ?_
      unfold fll
      rw [hi]
      rfl
/-- the inits of those of the bits gone, those below y -/
def en0 (v : vw) (a : Int32) (y : Nat) : vw := fun b j => if b = 51 ∧ j < v 10 0 ∧ 2 ≤ v 51 j ∧ v 51 j - 2 < y ∧ hb a (v 51 j - 2) = true then 1 else v b j
theorem en0_ne (v : vw) (a : Int32) (y b j : Nat) (h1 : b ≠ 51) : en0 v a y b j = v b j := by unfold en0; rw [if_neg (by omega)]
theorem en0_51 (v : vw) (a : Int32) (y j : Nat) (hj : j < v 10 0) : en0 v a y 51 j = if 2 ≤ v 51 j ∧ v 51 j - 2 < y ∧ hb a (v 51 j - 2) = true then 1 else v 51 j := by
  unfold en0
  by_cases h : 2 ≤ v 51 j ∧ v 51 j - 2 < y ∧ hb a (v 51 j - 2) = true
  · rw [if_pos ⟨rfl, hj, h⟩, if_pos h]
  · rw [if_neg (fun e => h e.2.2), if_neg h]
theorem WFv_en0 {v : vw} (W : WFv v) (a : Int32) (y : Nat) : WFv (en0 v a y) := by
  refine WFv_051 W (fun b h0 h1 h2 => by funext j; exact en0_ne v a y b j h2) ?_ ?_ ?_
  · intro p hp; rw [en0_ne _ _ _ _ _ (by omega)]; exact W.th p hp
  · intro p hp; rw [en0_ne _ _ _ _ _ (by omega)]; exact (W.pr p hp).1
  · intro x hx
    have := W.nk x hx
    rw [en0_51 _ _ _ _ hx]
    by_cases h : 2 ≤ v 51 x ∧ v 51 x - 2 < y ∧ hb a (v 51 x - 2) = true
    · rw [if_pos h]; exact ⟨by omega, fun h => by omega⟩
    · rw [if_neg h]; exact ⟨this.2.2.2.1, this.2.2.2.2⟩
theorem en0_s1 {v : vw} (M : SMv v) (a : Int32) (y : Nat) (hq : v 2 y < v 10 0) (hb1 : hb a y = true) (h51 : v 51 (v 2 y) = y + 2) : upv (en0 v a y) 51 (v 2 y) 1 = en0 v a (y + 1) := by
  funext b j
  unfold upv
  by_cases c1 : b = 51 ∧ j = v 2 y
  · rw [if_pos c1, c1.1, c1.2, en0_51 _ _ _ _ hq, h51, if_pos ⟨by omega, by omega, by simpa using hb1⟩]
  · rw [if_neg c1]
    unfold en0
    by_cases c2 : b = 51 ∧ j < v 10 0 ∧ 2 ≤ v 51 j ∧ v 51 j - 2 < y ∧ hb a (v 51 j - 2) = true
    · rw [if_pos c2, if_pos ⟨c2.1, c2.2.1, c2.2.2.1, by omega, c2.2.2.2.2⟩]
    · rw [if_neg c2, if_neg]
      rintro ⟨d1, d2, d3, d4, d5⟩
      by_cases d6 : v 51 j - 2 = y
      · have := (M.ii j d2 d3).2
        rw [d6] at this
        exact c1 ⟨d1, this.symm⟩
      · exact c2 ⟨d1, d2, d3, by omega, d5⟩
theorem en0_s0 {v : vw} (M : SMv v) (a : Int32) (y : Nat) (hn : ¬ (hb a y = true ∧ isIni v y = true)) : en0 v a (y + 1) = en0 v a y := by
  funext b j
  unfold en0
  by_cases c2 : b = 51 ∧ j < v 10 0 ∧ 2 ≤ v 51 j ∧ v 51 j - 2 < y ∧ hb a (v 51 j - 2) = true
  · rw [if_pos c2, if_pos ⟨c2.1, c2.2.1, c2.2.2.1, by omega, c2.2.2.2.2⟩]
  · rw [if_neg c2, if_neg]
    rintro ⟨d1, d2, d3, d4, d5⟩
    by_cases d6 : v 51 j - 2 = y
    · have := (M.ii j d2 d3).2
      rw [d6] at this d5
      apply hn
      refine ⟨d5, ?_⟩
      unfold isIni
      rw [this]
      exact decide_eq_true (by omega)
    · exact c2 ⟨d1, d2, d3, by omega, d5⟩
theorem c_fin_l {h : jh} {w : Nat} {v : vw} (Wf : WFv v) (M : SMv v) (a : Int32) (K : Nat → Int32 → jh → Option (Int32 × jh)) (L : Nat → Nat → Int32 → Int32 → jh → Option (Int32 × jh)) (hL : ∀ f, L (f + 1) = f_X11_finish_h14 K (L f)) : ∀ k y W f, y + k = 16 → k + 1 ≤ f → ClsV W (en0 v a y) → ∃ W', L f w a (nI y) (pw h w W) = K w a (pw h w W') ∧ ClsV W' (en0 v a 16) := by
  have hc := Wf.c0
  intro k
  induction k with
  | zero =>
    intro y W f hy hf C
    obtain ⟨f, rfl⟩ : ∃ g, f = g + 1 := ⟨f - 1, by omega⟩
    refine ⟨W, ?_, by rw [show 16 = y by omega]; exact C⟩
    rw [hL]
    unfold f_X11_finish_h14
    simp (discharger := omega) only [↓al_m, ↓al_m2, al_lit, al_add, al_mul, bd_some, bn_0, bn_1, bn_jz, al_le]
    rw [if_pos (by omega)]
  | succ k ih =>
    intro y W f hy hf C
    obtain ⟨f, rfl⟩ : ∃ g, f = g + 1 := ⟨f - 1, by omega⟩
    have W1 := WFv_en0 Wf a y
    have hq := Wf.pr y (by omega)
    have e2 : en0 v a y 2 y = v 2 y := en0_ne _ _ _ _ _ (by omega)
    have e10 : en0 v a y 10 0 = v 10 0 := en0_ne _ _ _ _ _ (by omega)
    have p1 : W 1 y = nI (v 2 y) := by rw [C.pa y 1 (by omega) (by decide)]; exact congrArg nI e2
    have ei : isIni (en0 v a y) y = isIni v y := by
      unfold isIni
      rw [e2, en0_51 _ _ _ _ hq.2.1]
      by_cases h1 : 2 ≤ v 51 (v 2 y) ∧ v 51 (v 2 y) - 2 < y ∧ hb a (v 51 (v 2 y) - 2) = true
      · rw [if_pos h1]
        have : ¬ v 51 (v 2 y) = y + 2 := by omega
        simp [this]
      · rw [if_neg h1]
    have ti := c_isInit (h := h) (w := w) C W1 y (by omega)
    rw [ei] at ti
    by_cases hg : hb a y = true ∧ isIni v y = true
    · have h51 : v 51 (v 2 y) = y + 2 := by have := hg.2; unfold isIni at this; simpa using this
      have C2 : ClsV (sw W 13 (upd (W 13) (v 2 y) nm2)) (en0 v a (y + 1)) := by
        rw [← en0_s1 M a y hq.2.1 hg.1 h51]
        refine ClsV_it C W1.bd (v 2 y) (by rw [e10]; exact hq.2.1) (fun f hf => sw_ne _ _ _ _ hf) ?_ ?_ (fun b j h => upv_ne _ _ _ _ _ _ h)
        · intro j hj; rw [sw_eq, upd_ne' _ _ _ _ hj]
        · rw [sw_eq, upd_eq', upv_eq]; rfl
      obtain ⟨W', E, C3⟩ := ih (y + 1) _ f (by omega) (by omega) C2
      refine ⟨W', ?_, C3⟩
      rw [hL]
      unfold f_X11_finish_h14
      simp (discharger := omega) only [↓al_m, ↓al_m2, al_lit, al_add, al_mul, bd_some, bn_0, bn_1, bn_jz, al_le, c_holds, hg.1, pw_cV0, ti, hg.2, pw_gR0_1, pw_gR9_3, pw_gR0_0, pw_gR1_1, cr1, p1, cw13]
      rw [if_neg (by omega), if_neg (by decide), if_neg (by decide)]
      exact E
    · obtain ⟨W', E, C3⟩ := ih (y + 1) W f (by omega) (by omega) (by rw [en0_s0 M a y hg]; exact C)
      refine ⟨W', ?_, C3⟩
      rw [hL]
      unfold f_X11_finish_h14
      simp (discharger := omega) only [↓al_m, ↓al_m2, al_lit, al_add, al_mul, bd_some, bn_0, bn_1, bn_jz, al_le, c_holds, pw_cV0, ti]
      rw [if_neg (by omega)]
      by_cases g1 : hb a y = true
      · have g2 : isIni v y = false := by
          cases hh : isIni v y
          · rfl
          · exact absurd ⟨g1, hh⟩ hg
        rw [if_neg (by rw [g1]; decide), if_pos g2]
        exact E
      · rw [if_pos (by simpa using g1)]
        exact E
theorem c_adopt_l {h : jh} {w : Nat} {v : vw} (Wf : WFv v) (a : Int32) (hA : adp v a) (hz : hb a (v 1 0) = false) (L : Nat → Nat → Int32 → Int32 → jh → Option (Unit × jh)) (hL : ∀ f, L (f + 1) = f_X11_adoptOrphans_h2 (fun h22 => some ((), h22)) (L f)) : ∀ k y W f, y + k = 16 → k + 1 ≤ f → ClsV W (en2 v a y) → ∃ W', L f w a (nI y) (pw h w W) = some ((), pw h w W') ∧ ClsV W' (en2 v a 16) := by
  have hc := Wf.c0
  intro k
  induction k with
  | zero =>
    intro y W f hy hf C
    obtain ⟨f, rfl⟩ : ∃ g, f = g + 1 := ⟨f - 1, by omega⟩
    refine ⟨W, ?_, by rw [show 16 = y by omega]; exact C⟩
    rw [hL]
    unfold f_X11_adoptOrphans_h2
    simp (discharger := omega) only [↓al_m, ↓al_m2, al_lit, al_add, al_mul, bd_some, bn_0, bn_1, bn_jz, al_le]
    rw [if_pos (by omega)]
  | succ k ih =>
    intro y W f hy hf C
    obtain ⟨f, rfl⟩ : ∃ g, f = g + 1 := ⟨f - 1, by omega⟩
    have W2 := WFv_en2 Wf a hA y
    have hq := Wf.pr y (by omega)
    have hr := Wf.pr (v 1 y) hq.1
    have e1 : en2 v a y 1 y = v 1 y := by rw [en2_1, if_neg (by omega)]
    have e2 : en2 v a y 2 (v 1 y) = v 2 (v 1 y) := by rw [en2_ne _ _ _ _ _ (by omega), en1_ne _ _ _ _ _ (by omega) (by omega)]
    have e0 : en2 v a y 0 y = en1 v a 16 0 y := by rw [en2_ne _ _ _ _ _ (by omega)]
    have e10 : en2 v a y 10 0 = v 10 0 := by rw [en2_ne _ _ _ _ _ (by omega), en1_ne _ _ _ _ _ (by omega) (by omega)]
    have ei : initV (en2 v a y) (v 2 (v 1 y)) = initV (en1 v a 16) (v 2 (v 1 y)) := by unfold initV; rw [en2_ne _ _ _ _ _ (by omega)]
    have p0 : W 0 y = nI (v 1 y) := by rw [C.pa y 0 (by omega) (by decide)]; exact congrArg nI e1
    have p1 : W 1 (v 1 y) = nI (v 2 (v 1 y)) := by rw [C.pa (v 1 y) 1 (by omega) (by decide)]; exact congrArg nI e2
    have th := c_has (h := h) (w := w) C y (by omega)
    rw [e0] at th
    have stay : ¬ (en1 v a 16 0 y = 1 ∧ hb a (v 1 y) = true ∧ y ≠ 0) → en2 v a (y + 1) = en2 v a y := by
      intro hn
      funext b j
      unfold en2
      by_cases c1 : b = 1 ∧ j < y ∧ en1 v a 16 0 j = 1 ∧ hb a (v 1 j) = true ∧ j ≠ 0
      · rw [if_pos c1, if_pos ⟨c1.1, by omega, c1.2.2⟩]
      · rw [if_neg c1, if_neg]
        rintro ⟨d1, d2, d3⟩
        by_cases d4 : j = y
        · rw [d4] at d3; exact hn d3
        · exact c1 ⟨d1, by omega, d3⟩
    by_cases hg : en1 v a 16 0 y = 1 ∧ hb a (v 1 y) = true ∧ y ≠ 0
    · have hlt := hA y (by omega) hg.1 hg.2.1 hg.2.2
      have C2 : ClsV (sw W 0 (upd (W 0) y (nI (initV (en1 v a 16) (v 2 (v 1 y)))))) (en2 v a (y + 1)) := by
        have := ClsV_pa' C W2.bd y 0 (initV (en1 v a 16) (v 2 (v 1 y))) (by omega) (by decide)
        have e : upv (en2 v a y) 1 y (initV (en1 v a 16) (v 2 (v 1 y))) = en2 v a (y + 1) := by
          funext b j
          unfold upv
          by_cases c1 : b = 1 ∧ j = y
          · rw [if_pos c1, c1.1, c1.2, en2_1, if_pos ⟨by omega, hg⟩]
          · rw [if_neg c1]
            unfold en2
            by_cases c2 : b = 1 ∧ j < y ∧ en1 v a 16 0 j = 1 ∧ hb a (v 1 j) = true ∧ j ≠ 0
            · rw [if_pos c2, if_pos ⟨c2.1, by omega, c2.2.2⟩]
            · rw [if_neg c2, if_neg]
              rintro ⟨d1, d2, d3⟩
              exact c2 ⟨d1, by omega, d3⟩
        rw [← e]; exact this
      obtain ⟨W', E, C3⟩ := ih (y + 1) _ f (by omega) (by omega) C2
      refine ⟨W', ?_, C3⟩
      have hin : on 16 (initV (en1 v a 16) (v 2 (v 1 y))) = nI (initV (en1 v a 16) (v 2 (v 1 y))) := by unfold on; rw [if_neg (by omega)]
      rw [hL]
      unfold f_X11_adoptOrphans_h2 lt1
      simp (discharger := omega) only [↓al_m, ↓al_m2, al_lit, al_add, al_mul, bd_some, bn_0, bn_1, bn_jz, al_le, al_lt, pw_gR0_0, pw_gR0_1, pw_gR1_0, pw_gR1_1, cr0, cr1, p0, p1, pw_cV1, th, c_holds, hg.2.1, pw_cV9, c_livingInit C W2, ei, hin, cw0]
      rw [if_neg (by omega), if_neg (by rw [hg.1]; decide), if_neg (by decide)]
      have e4 : (if 0 < initV (en1 v a 16) (v 2 (v 1 y)) then nI (initV (en1 v a 16) (v 2 (v 1 y))) else nI 0) = nI (initV (en1 v a 16) (v 2 (v 1 y))) := by
        by_cases h1 : 0 < initV (en1 v a 16) (v 2 (v 1 y))
        · rw [if_pos h1]
        · rw [if_neg h1]; exact congrArg nI (by omega)
      rw [e4]
      exact E
    · obtain ⟨W', E, C3⟩ := ih (y + 1) W f (by omega) (by omega) (by rw [stay hg]; exact C)
      refine ⟨W', ?_, C3⟩
      rw [hL]
      unfold f_X11_adoptOrphans_h2
      simp (discharger := omega) only [↓al_m, ↓al_m2, al_lit, al_add, al_mul, bd_some, bn_0, bn_1, bn_jz, al_le, pw_gR0_0, pw_gR1_0, cr0, p0, pw_cV1, th, c_holds]
      rw [if_neg (by omega)]
      by_cases g1 : en1 v a 16 0 y = 1
      · rw [if_neg (by simp [g1])]
        have g2 : hb a (v 1 y) = false := by
          by_cases g3 : y = 0
          · rw [g3]; exact hz
          · cases hh : hb a (v 1 y)
            · rfl
            · exact absurd ⟨g1, hh, g3⟩ hg
        rw [if_pos g2]
        exact E
      · rw [if_pos (by simp [g1])]
        exact E
theorem fll_0 {v : vw} (Wf : WFv v) (M : SMv v) (p : Nat) (hp : p < 16) (h0 : p ≠ 0) : hb (fll v p) 0 = false := by
  rw [fll_hb v p 0 hp (by omega)]
  have t0 := M.t0
  cases hi : isIni v p
  · simp [hi]; omega
  · have h51 : v 51 (v 2 p) = p + 2 := by unfold isIni at hi; simpa using hi
    have hn : inL v (v 2 0) (v 2 p) = false := by
      unfold inL
      rw [t0.2.1, ch_0]
      apply decide_eq_false
      intro e
      have e2 : v 2 p = 0 := by simpa using e
      rw [e2, t0.2.2.2] at h51
      omega
    rw [hn]
    simp
    omega
theorem fll_ne {v : vw} (p : Nat) (hp : p < 16) : ¬ fll v p = 0 := by
  intro e
  have h1 := fll_hb v p p hp (by omega)
  rw [e] at h1
  rw [show hb (0 : Int32) p = false from hb_0 p] at h1
  simp at h1
theorem c_finish {h : jh} {w : Nat} {W : ms} {v : vw} (C : ClsV W v) (Wf : WFv v) (M : SMv v) (p : Nat) (hp : p < 16) (hp1 : v 0 p = 1) (h0 : p ≠ 0) : CD h w (f_X11_finish w (nI p) (pw h w W)) (dEnd v p) := by
  obtain ⟨f, hf⟩ := jfu_s
  have hA := adp_fll Wf M p hp hp1
  have hz : hb (fll v p) (v 1 0) = false := by rw [M.t0.2.2.1]; exact fll_0 Wf M p hp h0
  have e0 : en0 v (fll v p) 0 = v := by funext b j; unfold en0; rw [if_neg (by omega)]
  unfold f_X11_finish
  rw [pw_cV0, c_fallOf C Wf p hp, bd_some, if_neg h0, if_pos (fll_ne p hp)]
  unfold dEnd
  generalize fll v p = a at hA hz e0 ⊢
  obtain ⟨W1, E1, C1⟩ := c_fin_l (h := h) (w := w) Wf M a (fun y18 y19 h17 =>
    gR h17 y18 9 0 fun v20 =>
    gI h17 v20 3 7 fun v21 =>
    pV h17 v20 3 7 (.int (v21 &&& (y19 ^^^ (-1)))) fun h22 =>
    gR h22 y18 9 0 fun v23 =>
    gI h22 v23 3 8 fun v24 =>
    pV h22 v23 3 8 (.int (v24 &&& (y19 ^^^ (-1)))) fun h25 =>
    cV h25 y18 9 (f_X11_adoptOrphans y18 y19 h25) fun _ h26 =>
    some (y19, h26)) (jlp3 (f_X11_finish_h14 (fun y18 y19 h17 =>
    gR h17 y18 9 0 fun v20 =>
    gI h17 v20 3 7 fun v21 =>
    pV h17 v20 3 7 (.int (v21 &&& (y19 ^^^ (-1)))) fun h22 =>
    gR h22 y18 9 0 fun v23 =>
    gI h22 v23 3 8 fun v24 =>
    pV h22 v23 3 8 (.int (v24 &&& (y19 ^^^ (-1)))) fun h25 =>
    cV h25 y18 9 (f_X11_adoptOrphans y18 y19 h25) fun _ h26 =>
    some (y19, h26)))) (fun _ => rfl) 16 0 W jfu (by omega) (by omega) (by rw [e0]; exact C)
  refine Eq.subst (motive := fun o => CD h w o _) E1.symm ?_
  have C2 : ClsV (sw (sw W1 7 (fun _ => W1 7 0 &&& (a ^^^ (-1)))) 8 (fun _ => W1 8 0 &&& (a ^^^ (-1)))) (en1 v a 16) := by
    have W0 := WFv_en0 Wf a 16
    refine ClsV_th C1 W0.bd (fun f h7 h8 => by rw [sw_ne _ _ _ _ h8, sw_ne _ _ _ _ h7]) ?_ ?_ ?_
    · intro b j hb0
      unfold en1 en0
      rw [if_neg (show ¬ (b = 0 ∧ j < 16 ∧ hb a j = true) by omega)]
    · intro i hi
      rw [sw_ne _ _ _ _ (by omega), sw_eq, hb_and, hb_xor, hb_m1 i hi, C1.th i hi, en0_ne _ _ _ _ _ (by omega), en1_0]
      by_cases h16 : i < 16
      · cases hb a i <;> simp [h16]
      · simp [h16]
    · intro i hi
      rw [sw_eq, hb_and, hb_xor, hb_m1 i hi, C1.pw i hi, en0_ne _ _ _ _ _ (by omega), en0_ne _ _ _ _ _ (by omega), en1_0, en1_ne _ _ _ _ _ (by omega) (by omega)]
      by_cases h16 : i < 16
      · cases hb a i <;> simp [h16]
      · simp [h16]
  have h1 : en2 v a 0 = en1 v a 16 := by funext b j; unfold en2; rw [if_neg (by omega)]
  obtain ⟨W3, E3, C3⟩ := c_adopt_l (h := h) (w := w) Wf a hA hz (jlp3 (f_X11_adoptOrphans_h2 (fun h22 => some ((), h22)))) (fun _ => rfl) 16 0 _ jfu (by omega) (by omega) (by rw [h1]; exact C2)
  have E4 : f_X11_adoptOrphans w a (pw h w (sw (sw W1 7 (fun _ => W1 7 0 &&& (a ^^^ (-1)))) 8 (fun _ => W1 8 0 &&& (a ^^^ (-1))))) = some ((), pw h w W3) := E3
  show CD h w (gR (pw h w W1) w 9 0 _) _
  rw [pw_gR0_0, pw_gI1_7, pw_pV1_7, pw_gR0_0, pw_gI1_8, pw_pV1_8, pw_cV0, sw_ne _ _ _ _ (show 8 ≠ 7 by decide), E4, bd_some]
  exact ⟨W3, rfl, C3⟩
theorem c_finish0 {h : jh} {w : Nat} {W : ms} {v : vw} (C : ClsV W v) (Wf : WFv v) : CD h w (f_X11_finish w (nI 0) (pw h w W)) (nm1, v) := by
  unfold f_X11_finish
  rw [pw_cV0, c_fallOf C Wf 0 (by decide), bd_some, if_pos rfl, if_neg (by simp [al_0])]
  exact CD_no C
theorem c_canKill {h : jh} {w : Nat} {W : ms} {v : vw} (C : ClsV W v) (Wf : WFv v) (p q : Nat) (hp : p < 16) (hp1 : v 0 p = 1) (hq : q < 16) : f_X11_canKill w (nI p) (nI q) (pw h w W) = some (bn (decide (v 0 q = 1) && cnkV v p q), pw h w W) := by
  have hc0 := Wf.c0
  have h1 := Wf.pr p hp
  have h2 := Wf.pr q hq
  have h3 := Wf.nk (v 2 p) (by omega)
  have p1 : W 1 p = nI (v 2 p) := C.pa p 1 hp (by decide)
  have p5 : W 5 p = nI (v 6 p) := C.pa p 5 hp (by decide)
  have q5 : W 5 q = nI (v 6 q) := C.pa q 5 hq (by decide)
  have q2 : W 2 q = nI (v 3 q) := C.pa q 2 hq (by decide)
  have ev : (v 51 (v 2 p) = q + 2) = (initV v (v 2 p) = q) := by
    apply propext
    unfold initV
    by_cases h4 : 2 ≤ v 51 (v 2 p)
    · rw [if_pos h4]; omega
    · rw [if_neg h4]; omega
  unfold f_X11_canKill cnkV
  simp (discharger := omega) only [↓al_m, ↓al_m2, al_lit, al_add, al_mul, bd_some, bn_0, bn_1, bn_jz, al_eq, pw_gR0_0, pw_gR0_1, pw_cV0, pw_cV1, c_has C, c_sees C Wf, pw_gR9_3, pw_gR1_1, pw_gR1_2, pw_gR1_5, cr1, cr2, cr5, cr13, p1, p5, q5, q2, C.it' Wf, ini_nI, ev, c_rules C Wf]
  by_cases hq1 : v 0 q = 1
  · by_cases h4 : q = 0
    · simp [hq1, h4, bn]
    · cases sesV v p q
      · simp [hq1, h4, bn]
      · cases ovp v p (v 3 q) <;> by_cases h5 : v 6 p = v 6 q <;> by_cases h6 : initV v (v 2 p) = q <;> simp [hq1, h4, h5, h6, bn]
  · simp [hq1, bn]
theorem c_canKill' {h : jh} {w : Nat} {W : ms} (p x : Int32) (hx : x < 0 ∨ nI 16 ≤ x) : f_X11_canKill w p x (pw h w W) = some (bn false, pw h w W) := by
  unfold f_X11_canKill
  rw [pw_gR0_0, pw_cV1, c_has' x hx, bd_some, if_pos (by decide)]
  rfl
