/-! what fits, looking: the class -/
theorem c_wbs {z : Nat} {H : jh} {b1 b2 : Nat} {Q Q2 : Nat → Option Nat} {I : Option Nat} {T TI : ta} {hi : Bool} {fl : Int32} {n : Nat} {tp : Nat → Int32} (C : CI z H b1 b2 Q Q2 I T hi TI fl n tp) (Wf : WFv T.1) (hc : T.2.2.2.1 ≤ 8) (hN : NT T.2.2.2.1 T.2.2.2.2) (g : Int32) : f_X3_wouldBeSo (z + 1 + 30) (z + 1 + 1) g H = some (bn (fitg T.1 T.2.2.2.1 T.2.2.2.2 g), H) := by
  obtain ⟨f, hf⟩ := jfu_s
  exact c_wbs_l C Wf hc hN g _ (fun _ => rfl) T.2.2.2.1 0 jfu (by omega) (by omega)
theorem c_fit_l {z : Nat} {H : jh} {b1 b2 : Nat} {Q Q2 : Nat → Option Nat} {I : Option Nat} {T TI : ta} {hi : Bool} {fl : Int32} {n : Nat} {tp : Nat → Int32} (C : CI z H b1 b2 Q Q2 I T hi TI fl n tp) (Wf : WFv T.1) (hc : T.2.2.2.1 ≤ 8) (hN : NT T.2.2.2.1 T.2.2.2.2) (L : Nat → Nat → Nat → Int32 → Int32 → jh → Option (Int32 × jh)) (hL : ∀ f, L (f + 1) = f_X3_fitting_h4 (fun y12 h11 => some (y12, h11)) (L f)) : ∀ k i a f, 1 ≤ i → i + k = 16 → k + 1 ≤ f → L f (z + 1 + 30) (z + 1 + 1) a (nI i) H = some (bts (fun p => decide (T.1 0 p = 1) && fitg T.1 T.2.2.2.1 T.2.2.2.2 (fll T.1 p)) k i a, H) := by
  have hws := c_wbs C Wf hc hN
  obtain ⟨W, hW, CW⟩ := C.wld
  obtain ⟨H0, rfl⟩ : ∃ H0, H = pw H0 (z + 1 + 1) W := ⟨H, hW.eq.symm⟩
  intro k
  induction k with
  | zero =>
    intro i a f h1 hi hf
    obtain ⟨f, rfl⟩ : ∃ g, f = g + 1 := ⟨f - 1, by omega⟩
    rw [hL]
    unfold f_X3_fitting_h4
    simp (discharger := omega) only [↓al_m, ↓al_m2, al_lit, al_add, al_mul, bd_some, bn_0, bn_1, bn_jz, al_le]
    rw [if_pos (by omega), bts]
  | succ k ih =>
    intro i a f h1 hi hf
    obtain ⟨f, rfl⟩ : ∃ g, f = g + 1 := ⟨f - 1, by omega⟩
    rw [hL]
    unfold f_X3_fitting_h4
    have e : f_X11_fallOf (z + 1 + 1) (nI i) (pw H0 (z + 1 + 1) W) = some (fll T.1 i, pw H0 (z + 1 + 1) W) := by
      rw [c_fallOf CW Wf i (by omega), if_neg (by omega)]
    simp (discharger := omega) only [↓al_m, ↓al_m2, al_lit, al_add, al_mul, bd_some, bn_0, bn_1, bn_jz, al_le, pw_gR0_0, pw_cV1, pw_cV0, c_has CW, e, C.cvn, hws, bI_eq]
    rw [if_neg (by omega), bts, ih _ _ f (by omega) (by omega) (by omega), ih _ _ f (by omega) (by omega) (by omega)]
    by_cases h0 : T.1 0 i = 1 <;> cases fitg T.1 T.2.2.2.1 T.2.2.2.2 (fll T.1 i) <;> simp [h0]
theorem c_fit {z : Nat} {H : jh} {b1 b2 : Nat} {Q Q2 : Nat → Option Nat} {I : Option Nat} {T TI : ta} {hi : Bool} {fl : Int32} {n : Nat} {tp : Nat → Int32} (C : CI z H b1 b2 Q Q2 I T hi TI fl n tp) (Wf : WFv T.1) (hc : T.2.2.2.1 ≤ 8) (hN : NT T.2.2.2.1 T.2.2.2.2) : f_X3_fitting (z + 1 + 30) (z + 1 + 1) H = some (fitb T, H) := by
  obtain ⟨f, hf⟩ := jfu_s
  exact c_fit_l C Wf hc hN _ (fun _ => rfl) 15 1 (nI 0) jfu (by omega) (by omega) (by omega)
theorem k_fits {z : Nat} {H : jh} {b1 b2 : Nat} {Q Q2 : Nat → Option Nat} {I : Option Nat} {T TI : ta} {hi : Bool} {fl : Int32} {n : Nat} {tp : Nat → Int32} (C : CI z H b1 b2 Q Q2 I T hi TI fl n tp) (Wf : WFv T.1) (hc : T.2.2.2.1 ≤ 8) (hN : NT T.2.2.2.1 T.2.2.2.2) : f_X12_fits z H = some (fitb T, H) := by
  unfold f_X12_fits
  rw [C.r0, C.s2, C.r0, C.s0, C.cvn, c_fit C Wf hc hN, bd_some]
theorem c_les_l {h : jh} {w : Nat} {W : ms} {v : vw} (C : ClsV W v) (Wf : WFv v) (g : Int32) (x y : Nat) (hx : x < v 10 0) (K : Int32 → Int32 → jh → Option (Int32 × jh)) (L : Nat → Nat → Int32 → Int32 → Int32 → Int32 → Int32 → jh → Option (Int32 × jh)) (hL : ∀ f, L (f + 1) = f_X11_lesserSide_h20 K (L f)) : ∀ k i a b f, 1 ≤ i → i + k = 16 → k + 1 ≤ f → L f w g (on 16 (who v x y)) (nI a) (nI b) (nI i) (pw h w W) = K (nI (a + cnt (fun p => hb g p && wbe v x y (fll v p)) k i)) (nI (b + cnt (fun p => hb g p && !(wbe v x y (fll v p))) k i)) (pw h w W) := by
  have hw := who_le v x y
  intro k
  induction k with
  | zero =>
    intro i a b f h1 hi hf
    obtain ⟨f, rfl⟩ : ∃ g, f = g + 1 := ⟨f - 1, by omega⟩
    rw [hL]
    unfold f_X11_lesserSide_h20
    simp (discharger := omega) only [↓al_m, ↓al_m2, al_lit, al_add, al_mul, bd_some, bn_0, bn_1, bn_jz, al_le]
    rw [if_pos (by omega), cnt, cnt, Nat.add_zero, Nat.add_zero]
  | succ k ih =>
    intro i a b f h1 hi hf
    obtain ⟨f, rfl⟩ : ∃ g, f = g + 1 := ⟨f - 1, by omega⟩
    rw [hL]
    unfold f_X11_lesserSide_h20
    have e : f_X11_fallOf w (nI i) (pw h w W) = some (fll v i, pw h w W) := by
      rw [c_fallOf C Wf i (by omega), if_neg (by omega)]
    simp (discharger := omega) only [↓al_m, ↓al_m2, al_lit, al_add, al_mul, bd_some, bn_0, bn_1, bn_jz, al_le, pw_cV0, c_holds, on_nm1, e]
    rw [if_neg (by omega), cnt, cnt, ih _ _ _ f (by omega) (by omega) (by omega), ih _ _ _ f (by omega) (by omega) (by omega)]
    have ew : wbe v x y (fll v i) = (decide (who v x y ≠ 16) && !(hb (fll v i) (who v x y))) := by unfold wbe; simp [hx]
    rw [ew]
    by_cases h2 : who v x y = 16
    · cases hb g i <;> simp [h2, Nat.add_assoc]
    · have e2 : on 16 (who v x y) = nI (who v x y) := if_neg h2
      have eh : f_X12_holds (fll v i) (on 16 (who v x y)) (pw h w W) = some (bn (hb (fll v i) (who v x y)), pw h w W) := by rw [e2]; exact c_holds _ _ (by omega) _
      rw [if_neg h2, eh, bd_some, ih _ a (b + 1) f (by omega) (by omega) (by omega), ih _ (a + 1) b f (by omega) (by omega) (by omega)]
      cases hb g i <;> cases hb (fll v i) (who v x y) <;> simp [h2, Nat.add_assoc, bn_0]
theorem c_les {h : jh} {w : Nat} {W : ms} {v : vw} (C : ClsV W v) (Wf : WFv v) (g : Int32) (x y : Nat) (hx : x < v 10 0) (hy : y < 100) : f_X11_lesserSide w g (nI x) (nI y) (pw h w W) = some (nI (les v g x y), pw h w W) := by
  have hc := Wf.c0
  obtain ⟨f, hf⟩ := jfu_s
  unfold f_X11_lesserSide
  rw [pw_gR0_0, pw_cV1, c_holder C Wf x y (by omega) hy, bd_some]
  refine (c_les_l C Wf g x y hx _ _ (fun _ => rfl) 15 1 0 0 jfu (by omega) (by omega) (by omega)).trans ?_
  have l1 := cnt_le (fun p => hb g p && wbe v x y (fll v p)) 15 1
  have l2 := cnt_le (fun p => hb g p && !(wbe v x y (fll v p))) 15 1
  unfold les
  rw [lt1_e, Nat.zero_add, Nat.zero_add]
  generalize cnt (fun p => hb g p && wbe v x y (fll v p)) 15 1 = A at l1 ⊢
  generalize cnt (fun p => hb g p && !(wbe v x y (fll v p))) 15 1 = B at l2 ⊢
  by_cases h1 : B < A
  · rw [if_pos (by rw [al_lt (by omega) (by omega)]; exact h1), show min A B = B by omega]
  · rw [if_neg (by rw [al_lt (by omega) (by omega)]; exact h1), show min A B = A by omega]
theorem c_lk1 {z : Nat} {H : jh} {b1 b2 : Nat} {Q Q2 : Nat → Option Nat} {I : Option Nat} {T TI : ta} {hi : Bool} {fl : Int32} {n : Nat} {tp : Nat → Int32} (C : CI z H b1 b2 Q Q2 I T hi TI fl n tp) (Wf : WFv T.1) (g : Int32) (a : Int32) (x : Nat) (hx : x < T.1 10 0) (R43 : Nat → Int32 → Int32 → Int32 → Int32 → Int32 → jh → Option ((Int32 ⊕ String) × jh)) (K43 : Int32 → Int32 → Int32 → jh → Option ((Int32 ⊕ String) × jh)) (K : Nat → Int32 → Int32 → Int32 → Int32 → Int32 → jh → Option ((Int32 ⊕ String) × jh)) (L : Nat → Nat → Int32 → Int32 → Int32 → Int32 → Int32 → Int32 → jh → Option ((Int32 ⊕ String) × jh)) (hL : ∀ f, L (f + 1) = f_X12_look_h67 R43 K43 K (L f)) : ∀ k i b t f, i + k = 21 → t ≤ 15 → k + 1 ≤ f → L f z a g b (nI t) (nI x) (nI i) H = K z a g (lk1 T.1 g x k i b t).1 (nI (lk1 T.1 g x k i b t).2) (nI x) H ∧ (lk1 T.1 g x k i b t).2 ≤ 15 := by
  obtain ⟨W, hW, CW⟩ := C.wld
  obtain ⟨H0, rfl⟩ : ∃ H0, H = pw H0 (z + 1 + 1) W := ⟨H, hW.eq.symm⟩
  intro k
  induction k with
  | zero =>
    intro i b t f hi ht hf
    obtain ⟨f, rfl⟩ : ∃ g, f = g + 1 := ⟨f - 1, by omega⟩
    rw [hL]
    unfold f_X12_look_h67
    simp (discharger := omega) only [↓al_m, ↓al_m2, al_lit, al_add, al_mul, bd_some, bn_0, bn_1, bn_jz, al_lt]
    rw [if_pos (by omega), lk1]
    exact ⟨rfl, ht⟩
  | succ k ih =>
    intro i b t f hi ht hf
    obtain ⟨f, rfl⟩ : ∃ g, f = g + 1 := ⟨f - 1, by omega⟩
    rw [hL]
    unfold f_X12_look_h67
    have hl := les_lt T.1 g x i
    simp (discharger := omega) only [↓al_m, ↓al_m2, al_lit, al_add, al_mul, bd_some, bn_0, bn_1, bn_jz, al_lt, al_le, C.r0, C.s0, pw_cV0, c_les CW Wf]
    rw [if_neg (by omega), lk1]
    by_cases h1 : t < les T.1 g x i
    · rw [if_neg (by omega), if_pos h1]
      exact ih _ _ _ f (by omega) hl (by omega)
    · rw [if_pos (by omega), if_neg h1]
      exact ih _ _ _ f (by omega) ht (by omega)
theorem c_lk0 {z : Nat} {H : jh} {b1 b2 : Nat} {Q Q2 : Nat → Option Nat} {I : Option Nat} {T TI : ta} {hi : Bool} {fl : Int32} {n : Nat} {tp : Nat → Int32} (C : CI z H b1 b2 Q Q2 I T hi TI fl n tp) (Wf : WFv T.1) (g : Int32) (a : Int32) (K : Int32 → Int32 → Int32 → jh → Option ((Int32 ⊕ String) × jh)) (L : Nat → Nat → Int32 → Int32 → Int32 → Int32 → Int32 → jh → Option ((Int32 ⊕ String) × jh)) (hL : ∀ f, L (f + 1) = f_X12_look_h43 K (L f)) : ∀ k i b t f, i + k = T.1 10 0 → t ≤ 15 → k + 1 ≤ f → L f z a g b (nI t) (nI i) H = K a (lk0 T.1 g k i b t).1 (nI (lk0 T.1 g k i b t).2) H := by
  have hc := Wf.c0
  obtain ⟨f0, hf0⟩ := jfu_s
  have hk1 := c_lk1 C Wf g a
  obtain ⟨W, hW, CW⟩ := C.wld
  obtain ⟨H0, rfl⟩ : ∃ H0, H = pw H0 (z + 1 + 1) W := ⟨H, hW.eq.symm⟩
  have c0 := CW.c0
  intro k
  induction k with
  | zero =>
    intro i b t f hi ht hf
    obtain ⟨f, rfl⟩ : ∃ g, f = g + 1 := ⟨f - 1, by omega⟩
    rw [hL]
    unfold f_X12_look_h43
    simp (discharger := omega) only [↓al_m, ↓al_m2, al_lit, al_add, al_mul, bd_some, bn_0, bn_1, bn_jz, al_le, C.r0, C.s0, pw_gR0_1, pw_gR9_0, pw_gI10_1, c0]
    rw [if_pos (by omega), lk0]
  | succ k ih =>
    intro i b t f hi ht hf
    obtain ⟨f, rfl⟩ : ∃ g, f = g + 1 := ⟨f - 1, by omega⟩
    rw [hL]
    unfold f_X12_look_h43
    rw [C.r0, C.s0, pw_gR0_1, pw_gR9_0, pw_gI10_1, c0, if_neg (by rw [al_le (by omega) (by omega)]; omega), lk0]
    obtain ⟨e1, e2⟩ := hk1 i (by omega) (L f) K (fun y21 y22 y23 y24 y25 y26 h20 => L f y21 y22 y23 y24 y25 (y26 + 1) h20) (jlp7 (f_X12_look_h67 (L f) K (fun y21 y22 y23 y24 y25 y26 h20 => L f y21 y22 y23 y24 y25 (y26 + 1) h20))) (fun _ => rfl) 20 1 b t jfu (by omega) ht (by omega)
    refine e1.trans ?_
    show L f z a g _ _ (nI i + nI 1) _ = _
    rw [al_add]
    exact ih (i + 1) _ _ f (by omega) e2 (by omega)
theorem k_look {z : Nat} {H : jh} {b1 b2 : Nat} {Q Q2 : Nat → Option Nat} {I : Option Nat} {T TI : ta} {hi : Bool} {fl : Int32} {n : Nat} {tp : Nat → Int32} (C : CI z H b1 b2 Q Q2 I T hi TI fl n tp) (Wf : WFv T.1) (hc : T.2.2.2.1 ≤ 8) (hN : NT T.2.2.2.1 T.2.2.2.2) (a : Int32) : f_X12_look z a H = cA H (qLook T a) := by
  have hc0 := Wf.c0
  obtain ⟨f0, hf0⟩ := jfu_s
  unfold f_X12_look f_X12_look_b17 qLook
  rcases i_cases a 2 (by decide) with ⟨w, hw, rfl⟩ | ho
  · rw [cl_in hw (by decide), if_pos hw, C.r0, C.s2, C.r0, C.s0, C.cvn, c_fit C Wf hc hN, bd_some]
    have e9 := c_lk0 C Wf (fitb T) (nI w) (fun y28 y29 y30 h27 => (if ¬ y28 = 0 then some (.inl y30, h27) else some (.inl y29, h27))) (jlp6 (f_X12_look_h43 (fun y28 y29 y30 h27 => (if ¬ y28 = 0 then some (.inl y30, h27) else some (.inl y29, h27))))) (fun _ => rfl) (T.1 10 0) 0 nm1 0 jfu (by omega) (by omega) (by omega)
    have e8 : ∀ o, (if nI w = 0 then o else if nI w = 1 then o else some (.inr "java/util/NoSuchElementException", jt H)) = (o : Option ((Int32 ⊕ String) × jh)) := by
      intro o
      have hw' : w = 0 ∨ w = 1 := by omega
      rcases hw' with rfl | rfl <;> rfl
    refine (e8 _).trans (Eq.trans e9 ?_)
    try dsimp only
    have hw' : w = 0 ∨ w = 1 := by omega
    rcases hw' with rfl | rfl
    · rw [if_neg (show ¬ ¬ nI 0 = 0 by decide), if_pos rfl]; rfl
    · rw [if_pos (show ¬ nI 1 = 0 by decide), if_neg (by decide)]; rfl
  · rw [cl_out ho, if_neg (show ¬ 2 < 2 by decide)]
    simp (discharger := omega) only [al_lit, i_no ho (by decide), if_true, if_false, not_true_eq_false, not_false_eq_true, Nat.reduceEqDiff, Nat.one_ne_zero, Nat.zero_ne_one]
    rfl
