/-! the class's World read as the state v -/
def nm2 : Int32 := -2
theorem al_m2 : (-2 : Int32) = nm2 := id rfl
theorem nm2_ne {n : Nat} (h : n < 2147483648) : (nI n = nm2) = False := by
  apply eq_false
  intro e
  have h1 := nI_toInt (n := n) (by omega)
  rw [e] at h1
  have h2 : nm2.toInt = -2 := by decide
  omega
def ini (y : Nat) : Int32 := if y = 0 then nm1 else if y = 1 then nm2 else nI (y - 2)
theorem ini_m1 {y : Nat} (h : y < 100) : (ini y = nm1) = (y = 0) := by
  unfold ini
  by_cases h0 : y = 0
  · simp [h0]
  · rw [if_neg h0]
    by_cases h1 : y = 1
    · rw [if_pos h1]; simp only [h0]; exact eq_false (by decide)
    · rw [if_neg h1, nm1_ne (by omega)]; simp [h0]
theorem ini_m2 {y : Nat} (h : y < 100) : (ini y = nm2) = (y = 1) := by
  unfold ini
  by_cases h0 : y = 0
  · rw [if_pos h0]; simp only [h0]; exact propext ⟨fun e => absurd e (by decide), fun e => by omega⟩
  · rw [if_neg h0]
    by_cases h1 : y = 1
    · simp [h1]
    · rw [if_neg h1, nm2_ne (by omega)]; simp [h1]
theorem ini_nI {y n : Nat} (h : y < 100) (hn : n < 100) : (ini y = nI n) = (y = n + 2) := by
  unfold ini
  by_cases h0 : y = 0
  · rw [if_pos h0, nm1_ne' (by omega)]; exact propext ⟨fun e => e.elim, fun e => by omega⟩
  · rw [if_neg h0]
    by_cases h1 : y = 1
    · rw [if_pos h1]; exact propext ⟨fun e => absurd e.symm (by rw [nm2_ne (by omega)]; exact id), fun e => by omega⟩
    · rw [if_neg h1, al_eq (by omega) (by omega)]; exact propext ⟨fun e => by omega, fun e => by omega⟩
def ClsV (w : ms) (v : vw) : Prop :=
  (∀ p k, p < 16 → k < 6 → w k p = nI (v (k + 1) p)) ∧
  (∀ p s, p < 16 → s < 8 → w 6 (8 * p + s) = nI (v 8 (8 * p + s))) ∧
  (∀ i, i < 32 → hb (w 7 0) i = decide (i < 16 ∧ v 0 i = 1)) ∧
  (∀ i, i < 32 → hb (w 8 0) i = decide (i < 16 ∧ v 0 i = 1 ∧ v 7 i = 1)) ∧
  (w 10 0 = nI (v 10 0)) ∧
  (w 15 0 = nI (v 11 0)) ∧
  (w 22 0 = nI (v 12 0)) ∧
  (∀ s, s < v 10 0 → w 9 s = if s = 0 then nm1 else nI (v 20 s)) ∧
  (∀ s, s < v 11 0 → w 14 s = if s = 0 then nm1 else nI (v 21 s)) ∧
  (∀ s, s < v 12 0 → w 21 s = if s = 0 then nm1 else nI (v 22 s)) ∧
  (∀ s, s < v 10 0 → w 11 s = nI (v 40 s)) ∧
  (∀ s, s < 8 → w 12 s = nI (if s < v 10 0 then v 50 s else 1)) ∧
  (∀ s, s < 8 → w 13 s = ini (if s < v 10 0 then v 51 s else 0)) ∧
  (∀ s, s < v 11 0 → w 16 s = nI (v 41 s)) ∧
  (∀ s, s < v 11 0 → w 17 s = nI (v 60 s)) ∧
  (∀ s r, s < v 11 0 → r < v 60 s → w 18 (3 * s + r) = nI (v 61 (3 * s + r))) ∧
  (∀ s r, s < v 11 0 → r < v 60 s → w 19 (3 * s + r) = nI (v 62 (3 * s + r))) ∧
  (∀ s r, s < v 11 0 → r < v 60 s → w 20 (3 * s + r) = nI (v 63 (3 * s + r))) ∧
  (∀ s, s < v 12 0 → w 23 s = nI (v 42 s)) ∧
  (∀ s i, s < v 12 0 → i < 8 → w 24 (8 * s + i) = nI (v 71 (8 * s + i))) ∧
  (∀ i, i < 32 → hb (w 25 0) i = decide (i < v 12 0 ∧ v 70 i = 1))
theorem ClsV.pa {w : ms} {v : vw} (R : ClsV w v) : ∀ p k, p < 16 → k < 6 → w k p = nI (v (k + 1) p) := R.1
theorem ClsV.nm {w : ms} {v : vw} (R : ClsV w v) : ∀ p s, p < 16 → s < 8 → w 6 (8 * p + s) = nI (v 8 (8 * p + s)) := R.2.1
theorem ClsV.th {w : ms} {v : vw} (R : ClsV w v) : ∀ i, i < 32 → hb (w 7 0) i = decide (i < 16 ∧ v 0 i = 1) := R.2.2.1
theorem ClsV.pw {w : ms} {v : vw} (R : ClsV w v) : ∀ i, i < 32 → hb (w 8 0) i = decide (i < 16 ∧ v 0 i = 1 ∧ v 7 i = 1) := R.2.2.2.1
theorem ClsV.c0 {w : ms} {v : vw} (R : ClsV w v) : w 10 0 = nI (v 10 0) := R.2.2.2.2.1
theorem ClsV.c1 {w : ms} {v : vw} (R : ClsV w v) : w 15 0 = nI (v 11 0) := R.2.2.2.2.2.1
theorem ClsV.c2 {w : ms} {v : vw} (R : ClsV w v) : w 22 0 = nI (v 12 0) := R.2.2.2.2.2.2.1
theorem ClsV.a0 {w : ms} {v : vw} (R : ClsV w v) : ∀ s, s < v 10 0 → w 9 s = if s = 0 then nm1 else nI (v 20 s) := R.2.2.2.2.2.2.2.1
theorem ClsV.a1 {w : ms} {v : vw} (R : ClsV w v) : ∀ s, s < v 11 0 → w 14 s = if s = 0 then nm1 else nI (v 21 s) := R.2.2.2.2.2.2.2.2.1
theorem ClsV.a2 {w : ms} {v : vw} (R : ClsV w v) : ∀ s, s < v 12 0 → w 21 s = if s = 0 then nm1 else nI (v 22 s) := R.2.2.2.2.2.2.2.2.2.1
theorem ClsV.nk {w : ms} {v : vw} (R : ClsV w v) : ∀ s, s < v 10 0 → w 11 s = nI (v 40 s) := R.2.2.2.2.2.2.2.2.2.2.1
theorem ClsV.gv {w : ms} {v : vw} (R : ClsV w v) : ∀ s, s < 8 → w 12 s = nI (if s < v 10 0 then v 50 s else 1) := R.2.2.2.2.2.2.2.2.2.2.2.1
theorem ClsV.it {w : ms} {v : vw} (R : ClsV w v) : ∀ s, s < 8 → w 13 s = ini (if s < v 10 0 then v 51 s else 0) := R.2.2.2.2.2.2.2.2.2.2.2.2.1
theorem ClsV.uk {w : ms} {v : vw} (R : ClsV w v) : ∀ s, s < v 11 0 → w 16 s = nI (v 41 s) := R.2.2.2.2.2.2.2.2.2.2.2.2.2.1
theorem ClsV.rn {w : ms} {v : vw} (R : ClsV w v) : ∀ s, s < v 11 0 → w 17 s = nI (v 60 s) := R.2.2.2.2.2.2.2.2.2.2.2.2.2.2.1
theorem ClsV.ri {w : ms} {v : vw} (R : ClsV w v) : ∀ s r, s < v 11 0 → r < v 60 s → w 18 (3 * s + r) = nI (v 61 (3 * s + r)) := R.2.2.2.2.2.2.2.2.2.2.2.2.2.2.2.1
theorem ClsV.ro {w : ms} {v : vw} (R : ClsV w v) : ∀ s r, s < v 11 0 → r < v 60 s → w 19 (3 * s + r) = nI (v 62 (3 * s + r)) := R.2.2.2.2.2.2.2.2.2.2.2.2.2.2.2.2.1
theorem ClsV.rm {w : ms} {v : vw} (R : ClsV w v) : ∀ s r, s < v 11 0 → r < v 60 s → w 20 (3 * s + r) = nI (v 63 (3 * s + r)) := R.2.2.2.2.2.2.2.2.2.2.2.2.2.2.2.2.2.1
theorem ClsV.mk {w : ms} {v : vw} (R : ClsV w v) : ∀ s, s < v 12 0 → w 23 s = nI (v 42 s) := R.2.2.2.2.2.2.2.2.2.2.2.2.2.2.2.2.2.2.1
theorem ClsV.tg {w : ms} {v : vw} (R : ClsV w v) : ∀ s i, s < v 12 0 → i < 8 → w 24 (8 * s + i) = nI (v 71 (8 * s + i)) := R.2.2.2.2.2.2.2.2.2.2.2.2.2.2.2.2.2.2.2.1
theorem ClsV.sh {w : ms} {v : vw} (R : ClsV w v) : ∀ i, i < 32 → hb (w 25 0) i = decide (i < v 12 0 ∧ v 70 i = 1) := R.2.2.2.2.2.2.2.2.2.2.2.2.2.2.2.2.2.2.2.2
theorem c_holds (x : Int32) (i : Nat) (hi : i < 32) (h : jh) : f_X12_holds x (nI i) h = some (bn (hb x i), h) := by
  unfold f_X12_holds
  simp only [al_lit, tu_0 x i hi]
  cases hb x i <;> rfl
theorem c_bit (b : Bool) (h : jh) : f_X12_bit (bn b) h = some (bn b, h) := by cases b <;> rfl
theorem c_has {h : jh} {w : Nat} {W : ms} {v : vw} (C : ClsV W v) (p : Nat) (hp : p < 16) : f_X5_has (w + 1) (nI p) (pw h w W) = some (bn (decide (v 0 p = 1)), pw h w W) := by
  unfold f_X5_has
  simp (discharger := omega) only [al_lit, al_lt, al_le, pw_gI1_7, c_holds, bd_some, C.th, bn_0]
  rw [if_neg (by omega), if_neg (by omega)]
  by_cases h1 : v 0 p = 1 <;> simp [h1, hp, bn]
theorem c_has' {h : jh} {w : Nat} (x : Int32) (hx : x < 0 ∨ nI 16 ≤ x) : f_X5_has w x h = some (bn false, h) := by
  unfold f_X5_has
  rcases hx with h1 | h1
  · rw [if_pos h1]; rfl
  · by_cases h2 : x < 0
    · rw [if_pos h2]; rfl
    · rw [if_neg h2, if_pos (show (16 : Int32) ≤ x from h1)]; rfl
theorem c_hasPower {h : jh} {w : Nat} {W : ms} {v : vw} (C : ClsV W v) (p : Nat) (hp : p < 16) : f_X5_hasPower (w + 1) (nI p) (pw h w W) = some (bn (decide (v 0 p = 1 ∧ v 7 p = 1)), pw h w W) := by
  unfold f_X5_hasPower
  simp (discharger := omega) only [pw_gI1_8, c_holds, bd_some, C.pw, bn_jz]
  simp only [hp, true_and]
theorem c_numberOf {h : jh} {w : Nat} {W : ms} {v : vw} (C : ClsV W v) (p s : Nat) (hp : p < 16) (hs : s < 8) : f_X5_numberOf (w + 1) (nI p) (nI s) (pw h w W) = some (nI (v 8 (8 * p + s)), pw h w W) := by
  unfold f_X5_numberOf
  simp (discharger := omega) only [al_lit, al_add, al_mul, pw_gR1_6, cr6]
  rw [Nat.mul_comm p 8, C.nm p s hp hs]
theorem c_around0 {h : jh} {w : Nat} {W : ms} {v : vw} (C : ClsV W v) (Wf : WFv v) (s : Nat) (hs : s < v 10 0) : f_X9_around (w + 10) (nI s) (pw h w W) = some (if s = 0 then nm1 else nI (v 20 s), pw h w W) := by
  have hc := Wf.c0
  unfold f_X9_around
  simp (discharger := omega) only [al_lit, al_lt, al_le, pw_gI10_1, pw_gR10_0, cr9, C.c0, C.a0]
  rw [if_neg (by omega), if_neg (by omega), if_neg (by omega)]
theorem c_treeHas0 {h : jh} {w : Nat} {W : ms} {v : vw} (C : ClsV W v) (Wf : WFv v) (s : Nat) (hs : s < 2147483648) : f_X9_has (w + 10) (nI s) (pw h w W) = some (bn (decide (s < v 10 0)), pw h w W) := by
  have hc := Wf.c0
  unfold f_X9_has
  simp (discharger := omega) only [al_lit, al_lt, al_le, pw_gI10_1, C.c0]
  rw [if_neg (by omega)]
  by_cases h1 : s < v 10 0
  · rw [if_neg (by omega), if_neg (by omega)]; simp [h1, bn]
  · rw [if_pos (by omega)]; simp [h1, bn]
theorem c_treeHas'0 {h : jh} {w : Nat} {W : ms} {v : vw} (C : ClsV W v) (Wf : WFv v) (x : Int32) (hx : x < 0 ∨ nI 8 ≤ x) : f_X9_has (w + 10) x (pw h w W) = some (bn false, pw h w W) := by
  have hc := Wf.c0
  unfold f_X9_has
  rcases hx with h1 | h1
  · rw [if_pos h1]; rfl
  · by_cases h2 : x < 0
    · rw [if_pos h2]; rfl
    · rw [if_neg h2, pw_gI10_1]
      by_cases h3 : W 10 0 ≤ x
      · rw [if_pos h3]; rfl
      · rw [if_neg h3, if_pos (show (8 : Int32) ≤ x from h1)]; rfl
theorem c_depth_l0 {h : jh} {w : Nat} {W : ms} {v : vw} (C : ClsV W v) (Wf : WFv v) (L : Nat → Nat → Int32 → Int32 → Int32 → jh → Option (Int32 × jh)) (hL : ∀ f, L (f + 1) = f_X9_depth_h11 (fun y8 h7 => some (y8, h7)) (L f)) : ∀ s, s < v 10 0 → ∀ a i f, i + s + 1 ≤ 8 → s + 2 ≤ f → L f (w + 10) (nI a) (nI s) (nI i) (pw h w W) = some (nI (a + 1 + v 30 s), pw h w W) := by
  intro s
  induction s using Nat.strongRecOn with
  | ind s ih =>
    intro hs a i f hi hf
    obtain ⟨f, rfl⟩ : ∃ g, f = g + 1 + 1 := ⟨f - 2, by omega⟩
    rw [hL]
    unfold f_X9_depth_h11
    simp (discharger := omega) only [↓al_m, ↓al_m2, al_lit, al_le, al_add, nm1_ne, pw_cV10, c_around0 C Wf, bd_some, if_false]
    rw [if_neg (by omega)]
    by_cases h0 : s = 0
    · subst h0
      rw [if_pos rfl, hL]
      unfold f_X9_depth_h11
      simp only [↓al_m, ↓al_m2, al_lit, if_true, ite_self]
      rw [Wf.dz0]
    · have hu := Wf.up0 s (by omega) hs
      have hd := Wf.du0 s (by omega) hs
      rw [if_neg h0, ih _ hu (by omega) _ _ _ (by omega) (by omega), hd]
      exact congrArg (fun z => some (nI z, pw h w W)) (by omega)
theorem c_depth0 {h : jh} {w : Nat} {W : ms} {v : vw} (C : ClsV W v) (Wf : WFv v) (s : Nat) (hs : s < v 10 0) : f_X9_depth (w + 10) (nI s) (pw h w W) = some (nI (v 30 s), pw h w W) := by
  have hc := Wf.c0
  obtain ⟨f, hf⟩ := jfu_s
  unfold f_X9_depth
  rw [pw_cV10, c_around0 C Wf s hs, bd_some]
  by_cases h0 : s = 0
  · subst h0
    rw [if_pos rfl, Wf.dz0, show jfu = (f + 29999) + 1 by omega]
    show f_X9_depth_h11 _ (jlp4 _ (f + 29999)) (w + 10) 0 nm1 0 (pw h w W) = _
    unfold f_X9_depth_h11
    rfl
  · have hu := Wf.up0 s (by omega) hs
    rw [if_neg h0, Wf.du0 s (by omega) hs]
    refine (c_depth_l0 C Wf (jlp4 (f_X9_depth_h11 (fun y8 h7 => some (y8, h7)))) (fun _ => rfl) (v 20 s) (by omega) 0 0 jfu (by omega) (by omega)).trans ?_
    exact congrArg (fun z => some (nI z, pw h w W)) (by omega)
theorem c_around1 {h : jh} {w : Nat} {W : ms} {v : vw} (C : ClsV W v) (Wf : WFv v) (s : Nat) (hs : s < v 11 0) : f_X9_around (w + 16) (nI s) (pw h w W) = some (if s = 0 then nm1 else nI (v 21 s), pw h w W) := by
  have hc := Wf.c1
  unfold f_X9_around
  simp (discharger := omega) only [al_lit, al_lt, al_le, pw_gI16_1, pw_gR16_0, cr14, C.c1, C.a1]
  rw [if_neg (by omega), if_neg (by omega), if_neg (by omega)]
theorem c_treeHas1 {h : jh} {w : Nat} {W : ms} {v : vw} (C : ClsV W v) (Wf : WFv v) (s : Nat) (hs : s < 2147483648) : f_X9_has (w + 16) (nI s) (pw h w W) = some (bn (decide (s < v 11 0)), pw h w W) := by
  have hc := Wf.c1
  unfold f_X9_has
  simp (discharger := omega) only [al_lit, al_lt, al_le, pw_gI16_1, C.c1]
  rw [if_neg (by omega)]
  by_cases h1 : s < v 11 0
  · rw [if_neg (by omega), if_neg (by omega)]; simp [h1, bn]
  · rw [if_pos (by omega)]; simp [h1, bn]
theorem c_treeHas'1 {h : jh} {w : Nat} {W : ms} {v : vw} (C : ClsV W v) (Wf : WFv v) (x : Int32) (hx : x < 0 ∨ nI 8 ≤ x) : f_X9_has (w + 16) x (pw h w W) = some (bn false, pw h w W) := by
  have hc := Wf.c1
  unfold f_X9_has
  rcases hx with h1 | h1
  · rw [if_pos h1]; rfl
  · by_cases h2 : x < 0
    · rw [if_pos h2]; rfl
    · rw [if_neg h2, pw_gI16_1]
      by_cases h3 : W 15 0 ≤ x
      · rw [if_pos h3]; rfl
      · rw [if_neg h3, if_pos (show (8 : Int32) ≤ x from h1)]; rfl
theorem c_depth_l1 {h : jh} {w : Nat} {W : ms} {v : vw} (C : ClsV W v) (Wf : WFv v) (L : Nat → Nat → Int32 → Int32 → Int32 → jh → Option (Int32 × jh)) (hL : ∀ f, L (f + 1) = f_X9_depth_h11 (fun y8 h7 => some (y8, h7)) (L f)) : ∀ s, s < v 11 0 → ∀ a i f, i + s + 1 ≤ 8 → s + 2 ≤ f → L f (w + 16) (nI a) (nI s) (nI i) (pw h w W) = some (nI (a + 1 + v 31 s), pw h w W) := by
  intro s
  induction s using Nat.strongRecOn with
  | ind s ih =>
    intro hs a i f hi hf
    obtain ⟨f, rfl⟩ : ∃ g, f = g + 1 + 1 := ⟨f - 2, by omega⟩
    rw [hL]
    unfold f_X9_depth_h11
    simp (discharger := omega) only [↓al_m, ↓al_m2, al_lit, al_le, al_add, nm1_ne, pw_cV16, c_around1 C Wf, bd_some, if_false]
    rw [if_neg (by omega)]
    by_cases h0 : s = 0
    · subst h0
      rw [if_pos rfl, hL]
      unfold f_X9_depth_h11
      simp only [↓al_m, ↓al_m2, al_lit, if_true, ite_self]
      rw [Wf.dz1]
    · have hu := Wf.up1 s (by omega) hs
      have hd := Wf.du1 s (by omega) hs
      rw [if_neg h0, ih _ hu (by omega) _ _ _ (by omega) (by omega), hd]
      exact congrArg (fun z => some (nI z, pw h w W)) (by omega)
theorem c_depth1 {h : jh} {w : Nat} {W : ms} {v : vw} (C : ClsV W v) (Wf : WFv v) (s : Nat) (hs : s < v 11 0) : f_X9_depth (w + 16) (nI s) (pw h w W) = some (nI (v 31 s), pw h w W) := by
  have hc := Wf.c1
  obtain ⟨f, hf⟩ := jfu_s
  unfold f_X9_depth
  rw [pw_cV16, c_around1 C Wf s hs, bd_some]
  by_cases h0 : s = 0
  · subst h0
    rw [if_pos rfl, Wf.dz1, show jfu = (f + 29999) + 1 by omega]
    show f_X9_depth_h11 _ (jlp4 _ (f + 29999)) (w + 16) 0 nm1 0 (pw h w W) = _
    unfold f_X9_depth_h11
    rfl
  · have hu := Wf.up1 s (by omega) hs
    rw [if_neg h0, Wf.du1 s (by omega) hs]
    refine (c_depth_l1 C Wf (jlp4 (f_X9_depth_h11 (fun y8 h7 => some (y8, h7)))) (fun _ => rfl) (v 21 s) (by omega) 0 0 jfu (by omega) (by omega)).trans ?_
    exact congrArg (fun z => some (nI z, pw h w W)) (by omega)
theorem c_around2 {h : jh} {w : Nat} {W : ms} {v : vw} (C : ClsV W v) (Wf : WFv v) (s : Nat) (hs : s < v 12 0) : f_X9_around (w + 24) (nI s) (pw h w W) = some (if s = 0 then nm1 else nI (v 22 s), pw h w W) := by
  have hc := Wf.c2
  unfold f_X9_around
  simp (discharger := omega) only [al_lit, al_lt, al_le, pw_gI24_1, pw_gR24_0, cr21, C.c2, C.a2]
  rw [if_neg (by omega), if_neg (by omega), if_neg (by omega)]
theorem c_treeHas2 {h : jh} {w : Nat} {W : ms} {v : vw} (C : ClsV W v) (Wf : WFv v) (s : Nat) (hs : s < 2147483648) : f_X9_has (w + 24) (nI s) (pw h w W) = some (bn (decide (s < v 12 0)), pw h w W) := by
  have hc := Wf.c2
  unfold f_X9_has
  simp (discharger := omega) only [al_lit, al_lt, al_le, pw_gI24_1, C.c2]
  rw [if_neg (by omega)]
  by_cases h1 : s < v 12 0
  · rw [if_neg (by omega), if_neg (by omega)]; simp [h1, bn]
  · rw [if_pos (by omega)]; simp [h1, bn]
theorem c_treeHas'2 {h : jh} {w : Nat} {W : ms} {v : vw} (C : ClsV W v) (Wf : WFv v) (x : Int32) (hx : x < 0 ∨ nI 8 ≤ x) : f_X9_has (w + 24) x (pw h w W) = some (bn false, pw h w W) := by
  have hc := Wf.c2
  unfold f_X9_has
  rcases hx with h1 | h1
  · rw [if_pos h1]; rfl
  · by_cases h2 : x < 0
    · rw [if_pos h2]; rfl
    · rw [if_neg h2, pw_gI24_1]
      by_cases h3 : W 22 0 ≤ x
      · rw [if_pos h3]; rfl
      · rw [if_neg h3, if_pos (show (8 : Int32) ≤ x from h1)]; rfl
theorem c_depth_l2 {h : jh} {w : Nat} {W : ms} {v : vw} (C : ClsV W v) (Wf : WFv v) (L : Nat → Nat → Int32 → Int32 → Int32 → jh → Option (Int32 × jh)) (hL : ∀ f, L (f + 1) = f_X9_depth_h11 (fun y8 h7 => some (y8, h7)) (L f)) : ∀ s, s < v 12 0 → ∀ a i f, i + s + 1 ≤ 8 → s + 2 ≤ f → L f (w + 24) (nI a) (nI s) (nI i) (pw h w W) = some (nI (a + 1 + v 32 s), pw h w W) := by
  intro s
  induction s using Nat.strongRecOn with
  | ind s ih =>
    intro hs a i f hi hf
    obtain ⟨f, rfl⟩ : ∃ g, f = g + 1 + 1 := ⟨f - 2, by omega⟩
    rw [hL]
    unfold f_X9_depth_h11
    simp (discharger := omega) only [↓al_m, ↓al_m2, al_lit, al_le, al_add, nm1_ne, pw_cV24, c_around2 C Wf, bd_some, if_false]
    rw [if_neg (by omega)]
    by_cases h0 : s = 0
    · subst h0
      rw [if_pos rfl, hL]
      unfold f_X9_depth_h11
      simp only [↓al_m, ↓al_m2, al_lit, if_true, ite_self]
      rw [Wf.dz2]
    · have hu := Wf.up2 s (by omega) hs
      have hd := Wf.du2 s (by omega) hs
      rw [if_neg h0, ih _ hu (by omega) _ _ _ (by omega) (by omega), hd]
      exact congrArg (fun z => some (nI z, pw h w W)) (by omega)
theorem c_depth2 {h : jh} {w : Nat} {W : ms} {v : vw} (C : ClsV W v) (Wf : WFv v) (s : Nat) (hs : s < v 12 0) : f_X9_depth (w + 24) (nI s) (pw h w W) = some (nI (v 32 s), pw h w W) := by
  have hc := Wf.c2
  obtain ⟨f, hf⟩ := jfu_s
  unfold f_X9_depth
  rw [pw_cV24, c_around2 C Wf s hs, bd_some]
  by_cases h0 : s = 0
  · subst h0
    rw [if_pos rfl, Wf.dz2, show jfu = (f + 29999) + 1 by omega]
    show f_X9_depth_h11 _ (jlp4 _ (f + 29999)) (w + 24) 0 nm1 0 (pw h w W) = _
    unfold f_X9_depth_h11
    rfl
  · have hu := Wf.up2 s (by omega) hs
    rw [if_neg h0, Wf.du2 s (by omega) hs]
    refine (c_depth_l2 C Wf (jlp4 (f_X9_depth_h11 (fun y8 h7 => some (y8, h7)))) (fun _ => rfl) (v 22 s) (by omega) 0 0 jfu (by omega) (by omega)).trans ?_
    exact congrArg (fun z => some (nI z, pw h w W)) (by omega)
theorem c_under_l {h : jh} {w : Nat} {W : ms} {v : vw} (C : ClsV W v) (Wf : WFv v) (o : Nat) (ho : o < 100) (L : Nat → Nat → Int32 → Int32 → Int32 → jh → Option (Int32 × jh)) (hL : ∀ f, L (f + 1) = f_X9_isUnder_h5 (fun  h6 => some (0, h6)) (L f)) : ∀ x, x < v 10 0 → ∀ i f, i + x + 1 ≤ 8 → x + 2 ≤ f → L f (w + 10) (nI o) (nI x) (nI i) (pw h w W) = some (bn (inL v x o), pw h w W) := by
  have hc := Wf.c0
  intro x
  induction x using Nat.strongRecOn with
  | ind x ih =>
    intro hx i f hi hf
    obtain ⟨f, rfl⟩ : ∃ g, f = g + 1 + 1 := ⟨f - 2, by omega⟩
    rw [hL]
    unfold f_X9_isUnder_h5
    by_cases h1 : x = o
    · subst h1
      have : inL v x x = true := by unfold inL ch cc; simp
      simp (discharger := omega) only [↓al_m, ↓al_m2, al_lit, al_le, nm1_ne, this, if_false, not_true_eq_false]
      rw [if_neg (by omega)]
      rfl
    · simp (discharger := omega) only [↓al_m, ↓al_m2, al_lit, al_le, al_eq, al_add, nm1_ne, if_false, pw_cV10, c_around0 C Wf, bd_some]
      rw [if_neg (by omega), if_pos h1]
      by_cases h0 : x = 0
      · subst h0
        have : inL v 0 o = false := by unfold inL; rw [ch_0]; simp; omega
        rw [if_pos rfl, hL, this]
        unfold f_X9_isUnder_h5
        simp only [↓al_m, ↓al_m2, al_lit, if_true, ite_self]
        rfl
      · have e : inL v x o = inL v (v 20 x) o := by
          unfold inL; rw [ch_s0 Wf (by omega) hx]; simp; omega
        have hu := Wf.up0 x (by omega) hx
        rw [if_neg h0, e]
        exact ih _ hu (by omega) _ (f + 1) (by omega) (by omega)
theorem c_under {h : jh} {w : Nat} {W : ms} {v : vw} (C : ClsV W v) (Wf : WFv v) (x o : Nat) (hx : x < v 10 0) (ho : o < 100) : f_X9_isUnder (w + 10) (nI x) (nI o) (pw h w W) = some (bn (inL v x o), pw h w W) := by
  have hc := Wf.c0
  obtain ⟨f, hf⟩ := jfu_s
  exact c_under_l C Wf o ho _ (fun _ => rfl) x hx 0 jfu (by omega) (by omega)
