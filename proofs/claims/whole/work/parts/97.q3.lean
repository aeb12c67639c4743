/-! the class's questions by call: what the object's fields are read as, loops, answers -/
theorem CI.cv {z : Nat} {H : jh} {b1 b2 : Nat} {Q Q2 : Nat → Option Nat} {I : Option Nat} {T TI : ta} {hi : Bool} {fl : Int32} {n : Nat} {tp : Nat → Int32} (C : CI z H b1 b2 Q Q2 I T hi TI fl n tp) {γ β : Type} (o : Option (γ × jh)) (K : γ → jh → Option β) : cV H z 10 o K = bd o K := by obtain ⟨sd, e⟩ := C.ob; exact cV_of e o K
theorem CI.cvx {z : Nat} {H : jh} {b1 b2 : Nat} {Q Q2 : Nat → Option Nat} {I : Option Nat} {T TI : ta} {hi : Bool} {fl : Int32} {n : Nat} {tp : Nat → Int32} (C : CI z H b1 b2 Q Q2 I T hi TI fl n tp) {γ δ : Type} (o : Option ((γ ⊕ String) × jh)) (K : γ → jh → Option ((δ ⊕ String) × jh)) : cVX H z 10 o K = bX o K := by obtain ⟨sd, e⟩ := C.ob; exact cVX_of e o K
theorem CI.r0 {z : Nat} {H : jh} {b1 b2 : Nat} {Q Q2 : Nat → Option Nat} {I : Option Nat} {T TI : ta} {hi : Bool} {fl : Int32} {n : Nat} {tp : Nat → Int32} (C : CI z H b1 b2 Q Q2 I T hi TI fl n tp) {β : Type} (K : Nat → Option β) : gR H z 10 0 K = K (z + 1) := by obtain ⟨sd, e⟩ := C.ob; exact gR_of e rfl K
theorem CI.r1 {z : Nat} {H : jh} {b1 b2 : Nat} {Q Q2 : Nat → Option Nat} {I : Option Nat} {T TI : ta} {hi : Bool} {fl : Int32} {n : Nat} {tp : Nat → Int32} (C : CI z H b1 b2 Q Q2 I T hi TI fl n tp) {β : Type} (K : Nat → Option β) : gR H z 10 1 K = K (z + 36) := by obtain ⟨sd, e⟩ := C.ob; exact gR_of e rfl K
theorem CI.r2 {z : Nat} {H : jh} {b1 b2 : Nat} {Q Q2 : Nat → Option Nat} {I : Option Nat} {T TI : ta} {hi : Bool} {fl : Int32} {n : Nat} {tp : Nat → Int32} (C : CI z H b1 b2 Q Q2 I T hi TI fl n tp) {β : Type} (K : Nat → Option β) : gR H z 10 2 K = K (z + 64) := by obtain ⟨sd, e⟩ := C.ob; exact gR_of e rfl K
theorem CI.r3 {z : Nat} {H : jh} {b1 b2 : Nat} {Q Q2 : Nat → Option Nat} {I : Option Nat} {T TI : ta} {hi : Bool} {fl : Int32} {n : Nat} {tp : Nat → Int32} (C : CI z H b1 b2 Q Q2 I T hi TI fl n tp) {β : Type} (K : Nat → Option β) : gR H z 10 3 K = K (z + 92) := by obtain ⟨sd, e⟩ := C.ob; exact gR_of e rfl K
theorem CI.r4 {z : Nat} {H : jh} {b1 b2 : Nat} {Q Q2 : Nat → Option Nat} {I : Option Nat} {T TI : ta} {hi : Bool} {fl : Int32} {n : Nat} {tp : Nat → Int32} (C : CI z H b1 b2 Q Q2 I T hi TI fl n tp) {β : Type} (K : Nat → Option β) : gR H z 10 4 K = K (z + 96) := by obtain ⟨sd, e⟩ := C.ob; exact gR_of e rfl K
theorem CI.r5 {z : Nat} {H : jh} {b1 b2 : Nat} {Q Q2 : Nat → Option Nat} {I : Option Nat} {T TI : ta} {hi : Bool} {fl : Int32} {n : Nat} {tp : Nat → Int32} (C : CI z H b1 b2 Q Q2 I T hi TI fl n tp) {β : Type} (K : Nat → Option β) : gR H z 10 5 K = K (z + 99) := by obtain ⟨sd, e⟩ := C.ob; exact gR_of e rfl K
theorem CI.i6 {z : Nat} {H : jh} {b1 b2 : Nat} {Q Q2 : Nat → Option Nat} {I : Option Nat} {T TI : ta} {hi : Bool} {fl : Int32} {n : Nat} {tp : Nat → Int32} (C : CI z H b1 b2 Q Q2 I T hi TI fl n tp) {β : Type} (K : Int32 → Option β) : gI H z 10 6 K = K fl := by obtain ⟨sd, e⟩ := C.ob; exact gI_of e rfl K
theorem CI.i9 {z : Nat} {H : jh} {b1 b2 : Nat} {Q Q2 : Nat → Option Nat} {I : Option Nat} {T TI : ta} {hi : Bool} {fl : Int32} {n : Nat} {tp : Nat → Int32} (C : CI z H b1 b2 Q Q2 I T hi TI fl n tp) {β : Type} (K : Int32 → Option β) : gI H z 10 9 K = K (bn hi) := by obtain ⟨sd, e⟩ := C.ob; exact gI_of e rfl K
theorem CI.s0 {z : Nat} {H : jh} {b1 b2 : Nat} {Q Q2 : Nat → Option Nat} {I : Option Nat} {T TI : ta} {hi : Bool} {fl : Int32} {n : Nat} {tp : Nat → Int32} (C : CI z H b1 b2 Q Q2 I T hi TI fl n tp) {β : Type} (K : Nat → Option β) : gR H (z + 1) 6 0 K = K (z + 1 + 1) := by obtain ⟨x, n1, n2, n3, rf, S, -⟩ := C.sc; exact gR_of S.1 rfl K
theorem CI.s1 {z : Nat} {H : jh} {b1 b2 : Nat} {Q Q2 : Nat → Option Nat} {I : Option Nat} {T TI : ta} {hi : Bool} {fl : Int32} {n : Nat} {tp : Nat → Int32} (C : CI z H b1 b2 Q Q2 I T hi TI fl n tp) {β : Type} (K : Nat → Option β) : gR H (z + 1) 6 1 K = K (z + 1 + 29) := by obtain ⟨x, n1, n2, n3, rf, S, -⟩ := C.sc; exact gR_of S.1 rfl K
theorem CI.s2 {z : Nat} {H : jh} {b1 b2 : Nat} {Q Q2 : Nat → Option Nat} {I : Option Nat} {T TI : ta} {hi : Bool} {fl : Int32} {n : Nat} {tp : Nat → Int32} (C : CI z H b1 b2 Q Q2 I T hi TI fl n tp) {β : Type} (K : Nat → Option β) : gR H (z + 1) 6 2 K = K (z + 1 + 30) := by obtain ⟨x, n1, n2, n3, rf, S, -⟩ := C.sc; exact gR_of S.1 rfl K
theorem CI.s3 {z : Nat} {H : jh} {b1 b2 : Nat} {Q Q2 : Nat → Option Nat} {I : Option Nat} {T TI : ta} {hi : Bool} {fl : Int32} {n : Nat} {tp : Nat → Int32} (C : CI z H b1 b2 Q Q2 I T hi TI fl n tp) {β : Type} (K : Nat → Option β) : gR H (z + 1) 6 3 K = K (z + 1 + 34) := by obtain ⟨x, n1, n2, n3, rf, S, -⟩ := C.sc; exact gR_of S.1 rfl K
theorem CI.s5 {z : Nat} {H : jh} {b1 b2 : Nat} {Q Q2 : Nat → Option Nat} {I : Option Nat} {T TI : ta} {hi : Bool} {fl : Int32} {n : Nat} {tp : Nat → Int32} (C : CI z H b1 b2 Q Q2 I T hi TI fl n tp) {β : Type} (K : Int32 → Option β) : gI H (z + 1) 6 5 K = K (nI T.2.1) := by obtain ⟨x, n1, n2, n3, rf, S, -⟩ := C.sc; exact gI_of S.1 rfl K
theorem CI.cvs {z : Nat} {H : jh} {b1 b2 : Nat} {Q Q2 : Nat → Option Nat} {I : Option Nat} {T TI : ta} {hi : Bool} {fl : Int32} {n : Nat} {tp : Nat → Int32} (C : CI z H b1 b2 Q Q2 I T hi TI fl n tp) {γ β : Type} (o : Option (γ × jh)) (K : γ → jh → Option β) : cV H (z + 1) 6 o K = bd o K := by obtain ⟨x, n1, n2, n3, rf, S, -⟩ := C.sc; exact cV_of S.1 o K
theorem CI.n3 {z : Nat} {H : jh} {b1 b2 : Nat} {Q Q2 : Nat → Option Nat} {I : Option Nat} {T TI : ta} {hi : Bool} {fl : Int32} {n : Nat} {tp : Nat → Int32} (C : CI z H b1 b2 Q Q2 I T hi TI fl n tp) {β : Type} (K : Int32 → Option β) : gI H (z + 1 + 30) 1 3 K = K (nI T.2.2.2.1) := by obtain ⟨x, n1, n2, n3, rf, S, -⟩ := C.sc; exact gI_of S.2.2.1 rfl K
theorem CI.cvn {z : Nat} {H : jh} {b1 b2 : Nat} {Q Q2 : Nat → Option Nat} {I : Option Nat} {T TI : ta} {hi : Bool} {fl : Int32} {n : Nat} {tp : Nat → Int32} (C : CI z H b1 b2 Q Q2 I T hi TI fl n tp) {γ β : Type} (o : Option (γ × jh)) (K : γ → jh → Option β) : cV H (z + 1 + 30) 1 o K = bd o K := by obtain ⟨x, n1, n2, n3, rf, S, -⟩ := C.sc; exact cV_of S.2.2.1 o K
theorem CI.nr0 {z : Nat} {H : jh} {b1 b2 : Nat} {Q Q2 : Nat → Option Nat} {I : Option Nat} {T TI : ta} {hi : Bool} {fl : Int32} {n : Nat} {tp : Nat → Int32} (C : CI z H b1 b2 Q Q2 I T hi TI fl n tp) {β : Type} (K : Nat → Option β) : gR H (z + 1 + 30) 1 0 K = K (z + 1 + 31) := by obtain ⟨x, n1, n2, n3, rf, S, -⟩ := C.sc; exact gR_of S.2.2.1 rfl K
theorem CI.nr1 {z : Nat} {H : jh} {b1 b2 : Nat} {Q Q2 : Nat → Option Nat} {I : Option Nat} {T TI : ta} {hi : Bool} {fl : Int32} {n : Nat} {tp : Nat → Int32} (C : CI z H b1 b2 Q Q2 I T hi TI fl n tp) {β : Type} (K : Nat → Option β) : gR H (z + 1 + 30) 1 1 K = K (z + 1 + 32) := by obtain ⟨x, n1, n2, n3, rf, S, -⟩ := C.sc; exact gR_of S.2.2.1 rfl K
theorem CI.nr2 {z : Nat} {H : jh} {b1 b2 : Nat} {Q Q2 : Nat → Option Nat} {I : Option Nat} {T TI : ta} {hi : Bool} {fl : Int32} {n : Nat} {tp : Nat → Int32} (C : CI z H b1 b2 Q Q2 I T hi TI fl n tp) {β : Type} (K : Nat → Option β) : gR H (z + 1 + 30) 1 2 K = K (z + 1 + 33) := by obtain ⟨x, n1, n2, n3, rf, S, -⟩ := C.sc; exact gR_of S.2.2.1 rfl K
theorem CI.nt0 {z : Nat} {H : jh} {b1 b2 : Nat} {Q Q2 : Nat → Option Nat} {I : Option Nat} {T TI : ta} {hi : Bool} {fl : Int32} {n : Nat} {tp : Nat → Int32} (C : CI z H b1 b2 Q Q2 I T hi TI fl n tp) {β : Type} (hc : T.2.2.2.1 ≤ 8) (j : Nat) (K : Int32 → Option β) (hj : j < T.2.2.2.1) : aI H (z + 1 + 31) (nI j) K = K (T.2.2.2.2 0 j) := by obtain ⟨x, n1, n2, n3, rf, S, -, -, -, hn, -⟩ := C.sc; rw [aI_of S.2.2.2.1 (by omega) (by decide), (hn j hj).1]
theorem CI.nt1 {z : Nat} {H : jh} {b1 b2 : Nat} {Q Q2 : Nat → Option Nat} {I : Option Nat} {T TI : ta} {hi : Bool} {fl : Int32} {n : Nat} {tp : Nat → Int32} (C : CI z H b1 b2 Q Q2 I T hi TI fl n tp) {β : Type} (hc : T.2.2.2.1 ≤ 8) (j : Nat) (K : Int32 → Option β) (hj : j < T.2.2.2.1) : aI H (z + 1 + 32) (nI j) K = K (T.2.2.2.2 1 j) := by obtain ⟨x, n1, n2, n3, rf, S, -, -, -, hn, -⟩ := C.sc; rw [aI_of S.2.2.2.2.1 (by omega) (by decide), (hn j hj).2.1]
theorem CI.nt2 {z : Nat} {H : jh} {b1 b2 : Nat} {Q Q2 : Nat → Option Nat} {I : Option Nat} {T TI : ta} {hi : Bool} {fl : Int32} {n : Nat} {tp : Nat → Int32} (C : CI z H b1 b2 Q Q2 I T hi TI fl n tp) {β : Type} (hc : T.2.2.2.1 ≤ 8) (j : Nat) (K : Int32 → Option β) (hj : j < T.2.2.2.1) : aI H (z + 1 + 33) (nI j) K = K (T.2.2.2.2 2 j) := by obtain ⟨x, n1, n2, n3, rf, S, -, -, -, hn, -⟩ := C.sc; rw [aI_of S.2.2.2.2.2.1 (by omega) (by decide), (hn j hj).2.2]
theorem CI.st3 {z : Nat} {H : jh} {b1 b2 : Nat} {Q Q2 : Nat → Option Nat} {I : Option Nat} {T TI : ta} {hi : Bool} {fl : Int32} {n : Nat} {tp : Nat → Int32} (C : CI z H b1 b2 Q Q2 I T hi TI fl n tp) {β : Type} (j : Nat) (K : Int32 → Option β) (hj : j < 3) : aI H (z + 1 + 34) (nI j) K = K (T.2.2.2.2 3 j) := by obtain ⟨x, n1, n2, n3, rf, S, -, -, -, -, hr⟩ := C.sc; rw [aI_of S.2.2.2.2.2.2 hj (by decide), hr j hj]
theorem CI.tp2 {z : Nat} {H : jh} {b1 b2 : Nat} {Q Q2 : Nat → Option Nat} {I : Option Nat} {T TI : ta} {hi : Bool} {fl : Int32} {n : Nat} {tp : Nat → Int32} (C : CI z H b1 b2 Q Q2 I T hi TI fl n tp) {β : Type} (K : Int32 → Option β) : gI H (z + 96) 4 2 K = K (nI n) := by obtain ⟨tape, ops, ln, tk, ts, te, e1, -⟩ := C.re; exact gI_of e1 rfl K
theorem CI.wld {z : Nat} {H : jh} {b1 b2 : Nat} {Q Q2 : Nat → Option Nat} {I : Option Nat} {T TI : ta} {hi : Bool} {fl : Int32} {n : Nat} {tp : Nat → Int32} (C : CI z H b1 b2 Q Q2 I T hi TI fl n tp) : ∃ W, Hw H (z + 1 + 1) W ∧ ClsV W T.1 := by obtain ⟨x, n1, n2, n3, rf, S, h, -⟩ := C.sc; exact h
/-- an answer of the class -/
def cA (H : jh) (a : Nat × Int32) : Option ((Int32 ⊕ String) × jh) := if a.1 = 0 then some (.inl a.2, H) else if a.1 = 1 then some (.inr "java/util/NoSuchElementException", jt H) else some (.inr "java/lang/IllegalArgumentException", jt H)
theorem cA_0 (H : jh) (x : Int32) : cA H (0, x) = some (.inl x, H) := rfl
theorem cA_1 (H : jh) (x : Int32) : cA H (1, x) = some (.inr "java/util/NoSuchElementException", jt H) := rfl
theorem cA_2 (H : jh) (x : Int32) : cA H (2, x) = some (.inr "java/lang/IllegalArgumentException", jt H) := rfl
theorem bX_l {γ δ : Type} (a : γ) (h : jh) (K : γ → jh → Option ((δ ⊕ String) × jh)) : bX (some (.inl a, h)) K = K a h := rfl
theorem bX_r {γ δ : Type} (E : String) (h : jh) (K : γ → jh → Option ((δ ⊕ String) × jh)) : bX (some (.inr E, h)) K = some (.inr E, h) := rfl
theorem c_isP {h : jh} {w : Nat} {W : ms} {v : vw} (C : ClsV W v) (x : Int32) : f_X5_has (w + 1) x (pw h w W) = some (bn (isP v x), pw h w W) := by
  rcases i_cases x 16 (by decide) with ⟨p, hp, rfl⟩ | ho
  · rw [c_has C p hp]
    unfold isP
    rw [cl_in hp (by decide)]
    simp [hp]
  · rw [c_has' x ho]
    unfold isP
    rw [cl_out ho]
    rfl
theorem c_isS0 {h : jh} {w : Nat} {W : ms} {v : vw} (C : ClsV W v) (Wf : WFv v) (x : Int32) : f_X9_has (w + 10) x (pw h w W) = some (bn (isS v 10 x), pw h w W) := by
  rcases i_cases x 8 (by decide) with ⟨p, hp, rfl⟩ | ho
  · rw [c_treeHas0 C Wf p (by omega)]
    unfold isS
    rw [cl_in hp (by decide)]
  · rw [c_treeHas'0 C Wf x ho]
    have hc := Wf.c0
    unfold isS
    rw [cl_out ho, show decide (8 < v 10 0) = false from decide_eq_false (by omega)]
theorem c_isS1 {h : jh} {w : Nat} {W : ms} {v : vw} (C : ClsV W v) (Wf : WFv v) (x : Int32) : f_X9_has (w + 16) x (pw h w W) = some (bn (isS v 11 x), pw h w W) := by
  rcases i_cases x 8 (by decide) with ⟨p, hp, rfl⟩ | ho
  · rw [c_treeHas1 C Wf p (by omega)]
    unfold isS
    rw [cl_in hp (by decide)]
  · rw [c_treeHas'1 C Wf x ho]
    have hc := Wf.c1
    unfold isS
    rw [cl_out ho, show decide (8 < v 11 0) = false from decide_eq_false (by omega)]
theorem c_isS2 {h : jh} {w : Nat} {W : ms} {v : vw} (C : ClsV W v) (Wf : WFv v) (x : Int32) : f_X9_has (w + 24) x (pw h w W) = some (bn (isS v 12 x), pw h w W) := by
  rcases i_cases x 8 (by decide) with ⟨p, hp, rfl⟩ | ho
  · rw [c_treeHas2 C Wf p (by omega)]
    unfold isS
    rw [cl_in hp (by decide)]
  · rw [c_treeHas'2 C Wf x ho]
    have hc := Wf.c2
    unfold isS
    rw [cl_out ho, show decide (8 < v 12 0) = false from decide_eq_false (by omega)]
theorem c_tree0 {h : jh} {w : Nat} {W : ms} : f_X11_treeOf w (nI 0) (pw h w W) = some (some (w + 10), pw h w W) := by
  unfold f_X11_treeOf
  simp (discharger := omega) only [↓al_m, ↓al_m2, al_lit, al_add, al_mul, bd_some, bn_0, bn_1, bn_jz, if_true, if_false, not_true_eq_false, not_false_eq_true, Nat.reduceEqDiff, Nat.one_ne_zero, Nat.zero_ne_one, al_eq, pw_gR0_1, pw_gR9_0]
theorem c_tree1 {h : jh} {w : Nat} {W : ms} : f_X11_treeOf w (nI 1) (pw h w W) = some (some (w + 16), pw h w W) := by
  unfold f_X11_treeOf
  simp (discharger := omega) only [↓al_m, ↓al_m2, al_lit, al_add, al_mul, bd_some, bn_0, bn_1, bn_jz, if_true, if_false, not_true_eq_false, not_false_eq_true, Nat.reduceEqDiff, Nat.one_ne_zero, Nat.zero_ne_one, al_eq, pw_gR0_2, pw_gR15_0]
theorem c_tree2 {h : jh} {w : Nat} {W : ms} : f_X11_treeOf w (nI 2) (pw h w W) = some (some (w + 24), pw h w W) := by
  unfold f_X11_treeOf
  simp (discharger := omega) only [↓al_m, ↓al_m2, al_lit, al_add, al_mul, bd_some, bn_0, bn_1, bn_jz, if_true, if_false, not_true_eq_false, not_false_eq_true, Nat.reduceEqDiff, Nat.one_ne_zero, Nat.zero_ne_one, al_eq, pw_gR0_3, pw_gR23_0]
theorem c_treeX {h : jh} {w : Nat} {W : ms} (x : Int32) (ho : x < 0 ∨ nI 3 ≤ x) : f_X11_treeOf w x (pw h w W) = some (none, pw h w W) := by
  unfold f_X11_treeOf
  simp (discharger := omega) only [al_lit, i_no ho (by decide), if_true, if_false, not_true_eq_false, not_false_eq_true, Nat.reduceEqDiff, Nat.one_ne_zero, Nat.zero_ne_one]
theorem k_needP {z : Nat} {H : jh} {b1 b2 : Nat} {Q Q2 : Nat → Option Nat} {I : Option Nat} {T TI : ta} {hi : Bool} {fl : Int32} {n : Nat} {tp : Nat → Int32} (C : CI z H b1 b2 Q Q2 I T hi TI fl n tp) (x : Int32) : f_X12_needProcess z x H = if isP T.1 x = true then some (.inl (), H) else some (.inr "java/util/NoSuchElementException", jt H) := by
  obtain ⟨W, hW, CW⟩ := C.wld
  obtain ⟨H0, rfl⟩ : ∃ H0, H = pw H0 (z + 1 + 1) W := ⟨H, hW.eq.symm⟩
  unfold f_X12_needProcess
  simp only [C.r0, C.s0, pw_gR0_0, pw_cV1, c_isP CW, ↓al_m, ↓al_m2, al_lit, al_add, al_mul, bd_some, bn_0, bn_1, bn_jz]
  cases isP T.1 x <;> rfl
theorem k_needS0 {z : Nat} {H : jh} {b1 b2 : Nat} {Q Q2 : Nat → Option Nat} {I : Option Nat} {T TI : ta} {hi : Bool} {fl : Int32} {n : Nat} {tp : Nat → Int32} (C : CI z H b1 b2 Q Q2 I T hi TI fl n tp) (Wf : WFv T.1) (x : Int32) : f_X12_needSpace z (nI 0) x H = if isS T.1 10 x = true then some (.inl (), H) else some (.inr "java/util/NoSuchElementException", jt H) := by
  obtain ⟨W, hW, CW⟩ := C.wld
  obtain ⟨H0, rfl⟩ : ∃ H0, H = pw H0 (z + 1 + 1) W := ⟨H, hW.eq.symm⟩
  unfold f_X12_needSpace
  simp only [C.r0, C.s0, pw_cV0, c_tree0, nq_some, ↓al_m, ↓al_m2, al_lit, al_add, al_mul, bd_some, bn_0, bn_1, bn_jz]
  rw [show cV (pw H0 (z + 1 + 1) W) (z + 1 + 1 + 10) 7 (f_X9_has (z + 1 + 1 + 10) x (pw H0 (z + 1 + 1) W)) _ = _ from pw_cV10 _ _ _ _ _, c_isS0 CW Wf]
  simp only [↓al_m, ↓al_m2, al_lit, al_add, al_mul, bd_some, bn_0, bn_1, bn_jz]
  cases isS T.1 10 x <;> rfl
theorem k_needS1 {z : Nat} {H : jh} {b1 b2 : Nat} {Q Q2 : Nat → Option Nat} {I : Option Nat} {T TI : ta} {hi : Bool} {fl : Int32} {n : Nat} {tp : Nat → Int32} (C : CI z H b1 b2 Q Q2 I T hi TI fl n tp) (Wf : WFv T.1) (x : Int32) : f_X12_needSpace z (nI 1) x H = if isS T.1 11 x = true then some (.inl (), H) else some (.inr "java/util/NoSuchElementException", jt H) := by
  obtain ⟨W, hW, CW⟩ := C.wld
  obtain ⟨H0, rfl⟩ : ∃ H0, H = pw H0 (z + 1 + 1) W := ⟨H, hW.eq.symm⟩
  unfold f_X12_needSpace
  simp only [C.r0, C.s0, pw_cV0, c_tree1, nq_some, ↓al_m, ↓al_m2, al_lit, al_add, al_mul, bd_some, bn_0, bn_1, bn_jz]
  rw [show cV (pw H0 (z + 1 + 1) W) (z + 1 + 1 + 16) 7 (f_X9_has (z + 1 + 1 + 16) x (pw H0 (z + 1 + 1) W)) _ = _ from pw_cV16 _ _ _ _ _, c_isS1 CW Wf]
  simp only [↓al_m, ↓al_m2, al_lit, al_add, al_mul, bd_some, bn_0, bn_1, bn_jz]
  cases isS T.1 11 x <;> rfl
theorem k_needS2 {z : Nat} {H : jh} {b1 b2 : Nat} {Q Q2 : Nat → Option Nat} {I : Option Nat} {T TI : ta} {hi : Bool} {fl : Int32} {n : Nat} {tp : Nat → Int32} (C : CI z H b1 b2 Q Q2 I T hi TI fl n tp) (Wf : WFv T.1) (x : Int32) : f_X12_needSpace z (nI 2) x H = if isS T.1 12 x = true then some (.inl (), H) else some (.inr "java/util/NoSuchElementException", jt H) := by
  obtain ⟨W, hW, CW⟩ := C.wld
  obtain ⟨H0, rfl⟩ : ∃ H0, H = pw H0 (z + 1 + 1) W := ⟨H, hW.eq.symm⟩
  unfold f_X12_needSpace
  simp only [C.r0, C.s0, pw_cV0, c_tree2, nq_some, ↓al_m, ↓al_m2, al_lit, al_add, al_mul, bd_some, bn_0, bn_1, bn_jz]
  rw [show cV (pw H0 (z + 1 + 1) W) (z + 1 + 1 + 24) 7 (f_X9_has (z + 1 + 1 + 24) x (pw H0 (z + 1 + 1) W)) _ = _ from pw_cV24 _ _ _ _ _, c_isS2 CW Wf]
  simp only [↓al_m, ↓al_m2, al_lit, al_add, al_mul, bd_some, bn_0, bn_1, bn_jz]
  cases isS T.1 12 x <;> rfl
theorem k_needI (x : Int32) (h : jh) : f_X12_needId x h = if cl x 100 < 100 then some (.inl (), h) else some (.inr "java/lang/IllegalArgumentException", jt h) := by
  unfold f_X12_needId
  rcases i_cases x 100 (by decide) with ⟨p, hp, rfl⟩ | ho
  · rw [c_isId p (by omega), bd_some, cl_in hp (by decide), decide_eq_true hp, if_pos (show ¬ bn true = 0 by decide), if_pos hp]
  · rw [c_isId' x ho, bd_some, cl_out ho, if_neg (show ¬ ¬ bn false = 0 by decide), if_neg (by decide)]
/-! loops of the class's questions -/
theorem c_there {W : ms} {v : vw} (C : ClsV W v) : W 7 0 = thb v := by
  apply hb_ext
  intro i hi
  unfold thb
  rw [C.th i hi, bts_hb _ _ _ _ (by omega) i hi, hb_0]
  by_cases h1 : i < 16 <;> simp [h1]
theorem c_power {W : ms} {v : vw} (C : ClsV W v) : W 8 0 = pwb v := by
  apply hb_ext
  intro i hi
  unfold pwb
  rw [C.pw i hi, bts_hb _ _ _ _ (by omega) i hi, hb_0]
  by_cases h1 : i < 16 <;> simp [h1]
theorem c_isDead' {h : jh} {w : Nat} {W : ms} {v : vw} (C : ClsV W v) (Wf : WFv v) (s : Nat) (hs : s < 8) : f_X4_isDead (w + 9) (nI s) (pw h w W) = some (bn (decide (s < v 10 0 ∧ v 51 s = 1)), pw h w W) := by
  by_cases h1 : s < v 10 0
  · rw [c_isDead C Wf s h1]; simp [h1]
  · unfold f_X4_isDead
    have e : decide (s < v 10 0) = false := decide_eq_false h1
    simp (discharger := omega) only [↓al_m, ↓al_m2, al_lit, al_add, al_mul, bd_some, bn_0, bn_1, bn_jz, pw_gR9_0, pw_cV10, c_treeHas0 C Wf, e]
    simp [h1]
    try rfl
theorem c_dead_l {h : jh} {w : Nat} {W : ms} {v : vw} (C : ClsV W v) (Wf : WFv v) (L : Nat → Nat → Int32 → Int32 → jh → Option (Int32 × jh)) (hL : ∀ f, L (f + 1) = f_X4_dead_h4 (fun y6 h5 => some (y6, h5)) (L f)) : ∀ k i a f, i + k = 8 → k + 1 ≤ f → L f (w + 9) a (nI i) (pw h w W) = some (bts (fun s => decide (s < v 10 0 ∧ v 51 s = 1)) k i a, pw h w W) := by
  intro k
  induction k with
  | zero =>
    intro i a f hi hf
    obtain ⟨f, rfl⟩ : ∃ g, f = g + 1 := ⟨f - 1, by omega⟩
    rw [hL]
    unfold f_X4_dead_h4
    simp (discharger := omega) only [↓al_m, ↓al_m2, al_lit, al_add, al_mul, bd_some, bn_0, bn_1, bn_jz, al_le]
    rw [if_pos (by omega), bts]
  | succ k ih =>
    intro i a f hi hf
    obtain ⟨f, rfl⟩ : ∃ g, f = g + 1 := ⟨f - 1, by omega⟩
    rw [hL]
    unfold f_X4_dead_h4
    simp (discharger := omega) only [↓al_m, ↓al_m2, al_lit, al_add, al_mul, bd_some, bn_0, bn_1, bn_jz, al_le, pw_cV9, c_isDead' C Wf, bI_eq]
    rw [if_neg (by omega), bts, ih _ _ f (by omega) (by omega), ih _ _ f (by omega) (by omega)]
    by_cases h0 : i < v 10 0 ∧ v 51 i = 1 <;> simp [h0]
theorem c_deadB {h : jh} {w : Nat} {W : ms} {v : vw} (C : ClsV W v) (Wf : WFv v) : f_X4_dead (w + 9) (pw h w W) = some (ddb v, pw h w W) := by
  have hc := Wf.c0
  obtain ⟨f, hf⟩ := jfu_s
  refine (c_dead_l C Wf _ (fun _ => rfl) 8 0 (nI 0) jfu (by omega) (by omega)).trans ?_
  refine congrArg some (Prod.ext ?_ rfl)
  apply hb_ext
  intro i hi
  unfold ddb
  show hb (bts _ 8 0 (nI 0)) i = _
  rw [bts_hb _ _ _ _ (by omega) i hi, bts_hb _ _ _ _ (by omega) i hi, hb_0]
  by_cases h1 : i < v 10 0
  · have h2 : i < 8 := by omega
    simp [h1, h2]
  · simp [h1]
theorem c_hmi_l {h : jh} {w : Nat} {W : ms} {v : vw} (C : ClsV W v) (Wf : WFv v) (kd x : Nat) (hk : kd < 3) (hx : x < 8) (L : Nat → Nat → Int32 → Nat → Int32 → Int32 → jh → Option (Int32 × jh)) (hL : ∀ f, L (f + 1) = f_X5_howManyIn_h34 (fun y12 h11 => some (y12, h11)) (L f)) : ∀ k i a f, i + k = 16 → k + 1 ≤ f → L f (w + 1) (nI x) (w + (3 + kd)) (nI a) (nI i) (pw h w W) = some (nI (a + cnt (fun p => decide (v 0 p = 1 ∧ v (2 + kd) p = x)) k i), pw h w W) := by
  have hc := Wf.c0
  have hc1 := Wf.c1
  have hc2 := Wf.c2
  intro k
  induction k with
  | zero =>
    intro i a f hi hf
    obtain ⟨f, rfl⟩ : ∃ g, f = g + 1 := ⟨f - 1, by omega⟩
    rw [hL]
    unfold f_X5_howManyIn_h34
    simp (discharger := omega) only [↓al_m, ↓al_m2, al_lit, al_add, al_mul, bd_some, bn_0, bn_1, bn_jz, al_le]
    rw [if_pos (by omega), cnt, Nat.add_zero]
  | succ k ih =>
    intro i a f hi hf
    obtain ⟨f, rfl⟩ : ∃ g, f = g + 1 := ⟨f - 1, by omega⟩
    rw [hL]
    unfold f_X5_howManyIn_h34
    have h1 := Wf.pr i (by omega)
    have er : ∀ (K : Int32 → Option (Int32 × jh)), aI (pw h w W) (w + (3 + kd)) (nI i) K = K (nI (v (2 + kd) i)) := by
      intro K
      have e : kd = 0 ∨ kd = 1 ∨ kd = 2 := by omega
      rcases e with rfl | rfl | rfl
      · rw [cr1 _ _ _ _ _ (by omega), C.pa i 1 (by omega) (by decide)]
      · rw [cr2 _ _ _ _ _ (by omega), C.pa i 2 (by omega) (by decide)]
      · rw [cr3 _ _ _ _ _ (by omega), C.pa i 3 (by omega) (by decide)]
    have hb2 : v (2 + kd) i < 8 := by
      have e : kd = 0 ∨ kd = 1 ∨ kd = 2 := by omega
      rcases e with rfl | rfl | rfl
      · show v 2 i < 8; omega
      · show v 3 i < 8; omega
      · show v 4 i < 8; omega
    have eh : hb (W 7 0) i = decide (v 0 i = 1) := by
      rw [C.th i (by omega)]
      have : i < 16 := by omega
      simp [this]
    simp (discharger := omega) only [↓al_m, ↓al_m2, al_lit, al_add, al_mul, bd_some, bn_0, bn_1, bn_jz, al_le, al_eq, pw_gI1_7, c_holds, er, eh]
    rw [if_neg (by omega), cnt, ih _ _ f (by omega) (by omega), ih _ _ f (by omega) (by omega)]
    by_cases h0 : v 0 i = 1 <;> by_cases h2 : v (2 + kd) i = x <;> simp [h0, h2, Nat.add_assoc]
theorem c_hmi {h : jh} {w : Nat} {W : ms} {v : vw} (C : ClsV W v) (Wf : WFv v) (kd x : Nat) (hk : kd < 3) (hx : x < 8) : f_X5_howManyIn (w + 1) (nI kd) (nI x) (pw h w W) = some (nI (hmi v kd x), pw h w W) := by
  obtain ⟨f, hf⟩ := jfu_s
  have := c_hmi_l (h := h) (w := w) C Wf kd x hk hx (jlp5 (f_X5_howManyIn_h34 (fun y12 h11 => some (y12, h11)))) (fun _ => rfl) 16 0 0 jfu (by omega) (by omega)
  rw [Nat.zero_add] at this
  unfold f_X5_howManyIn f_X5_howManyIn_b27
  have e : kd = 0 ∨ kd = 1 ∨ kd = 2 := by omega
  rcases e with rfl | rfl | rfl
  · simp (discharger := omega) only [al_lit, al_eq, if_true, if_false, not_true_eq_false, not_false_eq_true, Nat.reduceEqDiff, Nat.one_ne_zero, Nat.zero_ne_one, pw_gR1_1]; exact this
  · simp (discharger := omega) only [al_lit, al_eq, if_true, if_false, not_true_eq_false, not_false_eq_true, Nat.reduceEqDiff, Nat.one_ne_zero, Nat.zero_ne_one, pw_gR1_2]; exact this
  · simp (discharger := omega) only [al_lit, al_eq, if_true, if_false, not_true_eq_false, not_false_eq_true, Nat.reduceEqDiff, Nat.one_ne_zero, Nat.zero_ne_one, pw_gR1_3]; exact this
theorem c_piu_l {h : jh} {w : Nat} {W : ms} {v : vw} (C : ClsV W v) (Wf : WFv v) (x : Nat) (hx : x < v 12 0) (L : Nat → Nat → Int32 → Int32 → Int32 → jh → Option (Int32 × jh)) (hL : ∀ f, L (f + 1) = f_X2_placesInUse_h4 (fun y6 h5 => some (y6, h5)) (L f)) : ∀ k i a f, i + k = 8 → k + 1 ≤ f → L f (w + 23) (nI x) (nI a) (nI i) (pw h w W) = some (nI (a + cnt (fun i => decide (v 71 (8 * x + i) ≠ 0)) k i), pw h w W) := by
  have hc := Wf.c2
  intro k
  induction k with
  | zero =>
    intro i a f hi hf
    obtain ⟨f, rfl⟩ : ∃ g, f = g + 1 := ⟨f - 1, by omega⟩
    rw [hL]
    unfold f_X2_placesInUse_h4
    simp (discharger := omega) only [↓al_m, ↓al_m2, al_lit, al_add, al_mul, bd_some, bn_0, bn_1, bn_jz, al_le]
    rw [if_pos (by omega), cnt, Nat.add_zero]
  | succ k ih =>
    intro i a f hi hf
    obtain ⟨f, rfl⟩ : ∃ g, f = g + 1 := ⟨f - 1, by omega⟩
    rw [hL]
    unfold f_X2_placesInUse_h4
    have h1 := Wf.tg x i hx (by omega)
    have e := C.tg x i hx (by omega)
    rw [show 8 * x + i = x * 8 + i by omega] at e h1
    simp (discharger := omega) only [↓al_m, ↓al_m2, al_lit, al_add, al_mul, bd_some, bn_0, bn_1, bn_jz, al_le, al_eq, pw_gR23_2, cr24, e]
    rw [if_neg (by omega), cnt, ih _ _ f (by omega) (by omega), ih _ _ f (by omega) (by omega), show 8 * x + i = x * 8 + i by omega]
    by_cases h0 : v 71 (x * 8 + i) = 0
    · simp [h0, show 8 * x + i = x * 8 + i by omega]
    · simp [h0, show 8 * x + i = x * 8 + i by omega, Nat.add_assoc]
theorem c_piu {h : jh} {w : Nat} {W : ms} {v : vw} (C : ClsV W v) (Wf : WFv v) (x : Nat) (hx : x < v 12 0) : f_X2_placesInUse (w + 23) (nI x) (pw h w W) = some (nI (piu v x), pw h w W) := by
  obtain ⟨f, hf⟩ := jfu_s
  have := c_piu_l (h := h) (w := w) C Wf x hx (jlp4 (f_X2_placesInUse_h4 (fun y6 h5 => some (y6, h5)))) (fun _ => rfl) 8 0 0 jfu (by omega) (by omega)
  rw [Nat.zero_add] at this
  exact this
theorem c_reach_l {h : jh} {w : Nat} {W : ms} {v : vw} (C : ClsV W v) (Wf : WFv v) (p : Nat) (hp : p < 16) (hp1 : v 0 p = 1) (L : Nat → Nat → Int32 → Int32 → Int32 → jh → Option (Int32 × jh)) (hL : ∀ f, L (f + 1) = f_X11_reachOf_h4 (fun y6 h5 => some (y6, h5)) (L f)) : ∀ k i a f, i + k = 16 → k + 1 ≤ f → L f w (nI p) a (nI i) (pw h w W) = some (bts (fun q => decide (v 0 q = 1) && cnkV v p q) k i a, pw h w W) := by
  intro k
  induction k with
  | zero =>
    intro i a f hi hf
    obtain ⟨f, rfl⟩ : ∃ g, f = g + 1 := ⟨f - 1, by omega⟩
    rw [hL]
    unfold f_X11_reachOf_h4
    simp (discharger := omega) only [↓al_m, ↓al_m2, al_lit, al_add, al_mul, bd_some, bn_0, bn_1, bn_jz, al_le]
    rw [if_pos (by omega), bts]
  | succ k ih =>
    intro i a f hi hf
    obtain ⟨f, rfl⟩ : ∃ g, f = g + 1 := ⟨f - 1, by omega⟩
    rw [hL]
    unfold f_X11_reachOf_h4
    have ek := c_canKill (h := h) (w := w) C Wf p i hp hp1 (by omega)
    simp (discharger := omega) only [↓al_m, ↓al_m2, al_lit, al_add, al_mul, bd_some, bn_0, bn_1, bn_jz, al_le, pw_cV0, ek, bI_eq]
    rw [if_neg (by omega), bts, ih _ _ f (by omega) (by omega), ih _ _ f (by omega) (by omega)]
    cases (decide (v 0 i = 1) && cnkV v p i) <;> simp
theorem c_reach {h : jh} {w : Nat} {W : ms} {v : vw} (C : ClsV W v) (Wf : WFv v) (p : Nat) (hp : p < 16) (hp1 : v 0 p = 1) : f_X11_reachOf w (nI p) (pw h w W) = some (rch v p, pw h w W) := by
  obtain ⟨f, hf⟩ := jfu_s
  exact c_reach_l C Wf p hp hp1 _ (fun _ => rfl) 16 0 (nI 0) jfu (by omega) (by omega)
theorem c_shared_l {h : jh} {w : Nat} {W : ms} {v : vw} (C : ClsV W v) (Wf : WFv v) (x y : Nat) (hx : x < v 11 0) (hy : y < v 11 0) (L : Nat → Int32 → Int32 → Nat → Int32 → Int32 → jh → Option ((Int32 ⊕ String) × jh)) (hL : ∀ f, L (f + 1) = f_X12_shared_h29 (fun y14 h13 => some (.inl y14, h13)) (L f)) : ∀ k i a f, i + k = 100 → k + 1 ≤ f → L f (nI x) (nI y) (w + 15) (nI a) (nI i) (pw h w W) = some (.inl (nI (a + cnt (fun id => decide (iwl v (ch v 1 x) id ≠ 65534 ∧ iwl v (ch v 1 y) id ≠ 65534)) k i)), pw h w W) := by
  intro k
  induction k with
  | zero =>
    intro i a f hi hf
    obtain ⟨f, rfl⟩ : ∃ g, f = g + 1 := ⟨f - 1, by omega⟩
    rw [hL]
    unfold f_X12_shared_h29
    simp (discharger := omega) only [↓al_m, ↓al_m2, al_lit, al_add, al_mul, bd_some, bn_0, bn_1, bn_jz, al_le]
    rw [if_pos (by omega), cnt, Nat.add_zero]
  | succ k ih =>
    intro i a f hi hf
    obtain ⟨f, rfl⟩ : ∃ g, f = g + 1 := ⟨f - 1, by omega⟩
    rw [hL]
    unfold f_X12_shared_h29
    have b1 := iwl_lt Wf x hx i (by omega)
    have b2 := iwl_lt Wf y hy i (by omega)
    simp (discharger := omega) only [↓al_m, ↓al_m2, al_lit, al_add, al_mul, bd_some, bn_0, bn_1, bn_jz, al_le, al_eq, pw_cV15, c_in C Wf]
    rw [if_neg (by omega), cnt, ih _ _ f (by omega) (by omega), ih _ _ f (by omega) (by omega)]
    by_cases h1 : iwl v (ch v 1 x) i = 65534 <;> by_cases h2 : iwl v (ch v 1 y) i = 65534 <;> simp [h1, h2, Nat.add_assoc]
theorem c_listed_l {z : Nat} {H : jh} {b1 b2 : Nat} {Q Q2 : Nat → Option Nat} {I : Option Nat} {T TI : ta} {hi : Bool} {fl : Int32} {n : Nat} {tp : Nat → Int32} (C : CI z H b1 b2 Q Q2 I T hi TI fl n tp) (Wf : WFv T.1) (x : Nat) (y : Int32) (hx : x < T.1 10 0) (L : Nat → Nat → Int32 → Int32 → Int32 → Int32 → jh → Option ((Int32 ⊕ String) × jh)) (hL : ∀ f, L (f + 1) = f_X12_listed_h11 (fun y11 y12 h10 => (if y11 = (-1) then some (.inl y12, h10) else some (.inr "java/util/NoSuchElementException", jt h10))) (L f)) : ∀ k i a f, i + k = 21 → k + 1 ≤ f → L f z (nI x) y (nI a) (nI i) H = cA H (lst T.1 x y k i a) := by
  have hc := Wf.c0
  obtain ⟨W, hW, CW⟩ := C.wld
  obtain ⟨H0, rfl⟩ : ∃ H0, H = pw H0 (z + 1 + 1) W := ⟨H, hW.eq.symm⟩
  intro k
  induction k with
  | zero =>
    intro i a f hi hf
    obtain ⟨f, rfl⟩ : ∃ g, f = g + 1 := ⟨f - 1, by omega⟩
    rw [hL]
    unfold f_X12_listed_h11
    rw [if_pos (show (20 : Int32) < nI i by rw [show (20 : Int32) = nI 20 from rfl, al_lt (by omega) (by omega)]; omega), lst]
    dsimp only
    by_cases h1 : y = nm1
    · rw [if_pos (show y = -1 from h1), if_pos h1]; rfl
    · rw [if_neg (show ¬ y = -1 from h1), if_neg h1]; rfl
  | succ k ih =>
    intro i a f hi hf
    obtain ⟨f, rfl⟩ : ∃ g, f = g + 1 := ⟨f - 1, by omega⟩
    rw [hL]
    unfold f_X12_listed_h11
    have hw := who_le T.1 x i
    rw [if_neg (show ¬ (20 : Int32) < nI i by rw [show (20 : Int32) = nI 20 from rfl, al_lt (by omega) (by omega)]; omega), C.r0, C.s0, pw_gR0_0, pw_cV1, c_holder CW Wf x i (by omega) (by omega), bd_some, lst]
    by_cases h1 : who T.1 x i = 16
    · rw [if_pos (show on 16 (who T.1 x i) = (-1 : Int32) from (if_pos h1)), if_pos h1, show nI i + 1 = nI (i + 1) from al_add i 1]
      exact ih (i + 1) a f (by omega) (by omega)
    · have e1 : on 16 (who T.1 x i) = nI (who T.1 x i) := if_neg h1
      rw [if_neg (show ¬ on 16 (who T.1 x i) = (-1 : Int32) by rw [e1, show (-1 : Int32) = nm1 from rfl, nm1_ne (by omega)]; exact id), if_neg h1]
      by_cases h2 : nI a = y
      · rw [if_neg (not_not_intro h2), if_pos h2, e1]; rfl
      · rw [if_pos h2, if_neg h2, show nI i + 1 = nI (i + 1) from al_add i 1, show nI a + 1 = nI (a + 1) from al_add a 1]
        exact ih (i + 1) (a + 1) f (by omega) (by omega)
