/-! the class's object in a heap -/
def obf (z : Nat) (fl sd : Int32) (I : Option Nat) (hi : Bool) : List Value := [.ref (z + 1), .ref (z + 36), .ref (z + 64), .ref (z + 92), .ref (z + 96), .ref (z + 99), .int fl, .int sd, (match I with | none => .null | some i => .ref i), .int (bn hi)]
def dd (Q Q2 : Nat → Option Nat) : Nat → Option Nat := fun k => if k < 41 then Q k else Q2 (k - 41)
def RdC (H : jh) (z : Nat) : Prop := ∃ (f g k : Nat → Int32) (q : Int32), H.2.2 (z + 92) = jO 5 [.ref (z + 93), .ref (z + 94), .ref (z + 95), .int q] ∧ H.2.2 (z + 93) = jI 9 f ∧ H.2.2 (z + 94) = jI 9 g ∧ H.2.2 (z + 95) = jI 8 k
def ReC (H : jh) (z n : Nat) (tp : Nat → Int32) : Prop := ∃ (tape ops : Nat → Int32) (ln tk ts te : Int32), H.2.2 (z + 96) = jO 4 [.ref (z + 97), .ref (z + 98), .int (nI n), .int ln, .int tk, .int ts, .int te] ∧ H.2.2 (z + 97) = jI 900 tape ∧ H.2.2 (z + 98) = jI 5 ops ∧ ∀ j, j < n → tape j = tp j
def CI (z : Nat) (H : jh) (b1 : Nat) (b2 : Nat) (Q : Nat → Option Nat) (Q2 : Nat → Option Nat) (I : Option Nat) (T : ta) (hi : Bool) (TI : ta) (fl : Int32) (n : Nat) (tp : Nat → Int32) : Prop :=
  (z + 120 ≤ H.1) ∧
  (∃ sd, H.2.2 z = jO 10 (obf z fl sd I hi)) ∧
  (SC H (z + 1) Q T) ∧
  (HV H (z + 36) v0) ∧
  (HB H (z + 64)) ∧
  (RdC H z) ∧
  (ReC H z n tp) ∧
  (∃ f, H.2.2 (z + 99) = jI 5 f) ∧
  (∀ i, I = some i → SX H i Q2 ∧ (hi = true → SC H i Q2 TI)) ∧
  (hi = true → ∃ i, I = some i) ∧
  (I = none → ∀ k, k < 41 → Q2 k = none) ∧
  (DA z H.1 (dd Q Q2) I) ∧
  (∀ k b, k < 82 → dd Q Q2 k = some b → HB H b) ∧
  (H.1 + 28 * nfr (dd Q Q2) + (if I = none then 35 else 0) ≤ b1) ∧
  (H.2.1 + 465 * nfr (dd Q Q2) + (if I = none then 543 else 0) ≤ b2)
theorem CI.hz {z : Nat} {H : jh} {b1 : Nat} {b2 : Nat} {Q : Nat → Option Nat} {Q2 : Nat → Option Nat} {I : Option Nat} {T : ta} {hi : Bool} {TI : ta} {fl : Int32} {n : Nat} {tp : Nat → Int32} (R : CI z H b1 b2 Q Q2 I T hi TI fl n tp) : z + 120 ≤ H.1 := R.1
theorem CI.ob {z : Nat} {H : jh} {b1 : Nat} {b2 : Nat} {Q : Nat → Option Nat} {Q2 : Nat → Option Nat} {I : Option Nat} {T : ta} {hi : Bool} {TI : ta} {fl : Int32} {n : Nat} {tp : Nat → Int32} (R : CI z H b1 b2 Q Q2 I T hi TI fl n tp) : ∃ sd, H.2.2 z = jO 10 (obf z fl sd I hi) := R.2.1
theorem CI.sc {z : Nat} {H : jh} {b1 : Nat} {b2 : Nat} {Q : Nat → Option Nat} {Q2 : Nat → Option Nat} {I : Option Nat} {T : ta} {hi : Bool} {TI : ta} {fl : Int32} {n : Nat} {tp : Nat → Int32} (R : CI z H b1 b2 Q Q2 I T hi TI fl n tp) : SC H (z + 1) Q T := R.2.2.1
theorem CI.st {z : Nat} {H : jh} {b1 : Nat} {b2 : Nat} {Q : Nat → Option Nat} {Q2 : Nat → Option Nat} {I : Option Nat} {T : ta} {hi : Bool} {TI : ta} {fl : Int32} {n : Nat} {tp : Nat → Int32} (R : CI z H b1 b2 Q Q2 I T hi TI fl n tp) : HV H (z + 36) v0 := R.2.2.2.1
theorem CI.sp {z : Nat} {H : jh} {b1 : Nat} {b2 : Nat} {Q : Nat → Option Nat} {Q2 : Nat → Option Nat} {I : Option Nat} {T : ta} {hi : Bool} {TI : ta} {fl : Int32} {n : Nat} {tp : Nat → Int32} (R : CI z H b1 b2 Q Q2 I T hi TI fl n tp) : HB H (z + 64) := R.2.2.2.2.1
theorem CI.rd {z : Nat} {H : jh} {b1 : Nat} {b2 : Nat} {Q : Nat → Option Nat} {Q2 : Nat → Option Nat} {I : Option Nat} {T : ta} {hi : Bool} {TI : ta} {fl : Int32} {n : Nat} {tp : Nat → Int32} (R : CI z H b1 b2 Q Q2 I T hi TI fl n tp) : RdC H z := R.2.2.2.2.2.1
theorem CI.re {z : Nat} {H : jh} {b1 : Nat} {b2 : Nat} {Q : Nat → Option Nat} {Q2 : Nat → Option Nat} {I : Option Nat} {T : ta} {hi : Bool} {TI : ta} {fl : Int32} {n : Nat} {tp : Nat → Int32} (R : CI z H b1 b2 Q Q2 I T hi TI fl n tp) : ReC H z n tp := R.2.2.2.2.2.2.1
theorem CI.dr {z : Nat} {H : jh} {b1 : Nat} {b2 : Nat} {Q : Nat → Option Nat} {Q2 : Nat → Option Nat} {I : Option Nat} {T : ta} {hi : Bool} {TI : ta} {fl : Int32} {n : Nat} {tp : Nat → Int32} (R : CI z H b1 b2 Q Q2 I T hi TI fl n tp) : ∃ f, H.2.2 (z + 99) = jI 5 f := R.2.2.2.2.2.2.2.1
theorem CI.im {z : Nat} {H : jh} {b1 : Nat} {b2 : Nat} {Q : Nat → Option Nat} {Q2 : Nat → Option Nat} {I : Option Nat} {T : ta} {hi : Bool} {TI : ta} {fl : Int32} {n : Nat} {tp : Nat → Int32} (R : CI z H b1 b2 Q Q2 I T hi TI fl n tp) : ∀ i, I = some i → SX H i Q2 ∧ (hi = true → SC H i Q2 TI) := R.2.2.2.2.2.2.2.2.1
theorem CI.ih {z : Nat} {H : jh} {b1 : Nat} {b2 : Nat} {Q : Nat → Option Nat} {Q2 : Nat → Option Nat} {I : Option Nat} {T : ta} {hi : Bool} {TI : ta} {fl : Int32} {n : Nat} {tp : Nat → Int32} (R : CI z H b1 b2 Q Q2 I T hi TI fl n tp) : hi = true → ∃ i, I = some i := R.2.2.2.2.2.2.2.2.2.1
theorem CI.iq {z : Nat} {H : jh} {b1 : Nat} {b2 : Nat} {Q : Nat → Option Nat} {Q2 : Nat → Option Nat} {I : Option Nat} {T : ta} {hi : Bool} {TI : ta} {fl : Int32} {n : Nat} {tp : Nat → Int32} (R : CI z H b1 b2 Q Q2 I T hi TI fl n tp) : I = none → ∀ k, k < 41 → Q2 k = none := R.2.2.2.2.2.2.2.2.2.2.1
theorem CI.da {z : Nat} {H : jh} {b1 : Nat} {b2 : Nat} {Q : Nat → Option Nat} {Q2 : Nat → Option Nat} {I : Option Nat} {T : ta} {hi : Bool} {TI : ta} {fl : Int32} {n : Nat} {tp : Nat → Int32} (R : CI z H b1 b2 Q Q2 I T hi TI fl n tp) : DA z H.1 (dd Q Q2) I := R.2.2.2.2.2.2.2.2.2.2.2.1
theorem CI.dh {z : Nat} {H : jh} {b1 : Nat} {b2 : Nat} {Q : Nat → Option Nat} {Q2 : Nat → Option Nat} {I : Option Nat} {T : ta} {hi : Bool} {TI : ta} {fl : Int32} {n : Nat} {tp : Nat → Int32} (R : CI z H b1 b2 Q Q2 I T hi TI fl n tp) : ∀ k b, k < 82 → dd Q Q2 k = some b → HB H b := R.2.2.2.2.2.2.2.2.2.2.2.2.1
theorem CI.p1 {z : Nat} {H : jh} {b1 : Nat} {b2 : Nat} {Q : Nat → Option Nat} {Q2 : Nat → Option Nat} {I : Option Nat} {T : ta} {hi : Bool} {TI : ta} {fl : Int32} {n : Nat} {tp : Nat → Int32} (R : CI z H b1 b2 Q Q2 I T hi TI fl n tp) : H.1 + 28 * nfr (dd Q Q2) + (if I = none then 35 else 0) ≤ b1 := R.2.2.2.2.2.2.2.2.2.2.2.2.2.1
theorem CI.p2 {z : Nat} {H : jh} {b1 : Nat} {b2 : Nat} {Q : Nat → Option Nat} {Q2 : Nat → Option Nat} {I : Option Nat} {T : ta} {hi : Bool} {TI : ta} {fl : Int32} {n : Nat} {tp : Nat → Int32} (R : CI z H b1 b2 Q Q2 I T hi TI fl n tp) : H.2.1 + 465 * nfr (dd Q Q2) + (if I = none then 543 else 0) ≤ b2 := R.2.2.2.2.2.2.2.2.2.2.2.2.2.2
theorem dd_1 (Q Q2 : Nat → Option Nat) (k : Nat) (h : k < 41) : dd Q Q2 k = Q k := if_pos h
theorem dd_2 (Q Q2 : Nat → Option Nat) (k : Nat) : dd Q Q2 (41 + k) = Q2 k := by unfold dd; rw [if_neg (by omega), Nat.add_sub_cancel_left]
/-- where the ring's Worlds lie, of now and of the image -/
theorem DA.q1 {z t : Nat} {Q Q2 : Nat → Option Nat} {I : Option Nat} (A : DA z t (dd Q Q2) I) (k b : Nat) (hk : k < 41) (hb : Q k = some b) : z + 120 ≤ b ∧ b + 28 ≤ t := A.1 k b (by omega) (by rw [dd_1 _ _ _ hk]; exact hb)
theorem DA.q2 {z t : Nat} {Q Q2 : Nat → Option Nat} {I : Option Nat} (A : DA z t (dd Q Q2) I) (k b : Nat) (hk : k < 41) (hb : Q2 k = some b) : z + 120 ≤ b ∧ b + 28 ≤ t := A.1 (41 + k) b (by omega) (by rw [dd_2]; exact hb)
/-- what lies beyond the object's own cells stays -/
theorem CI.mk {z : Nat} {H H' : jh} {b1 b2 b1' b2' : Nat} {Q Q2 : Nat → Option Nat} {I : Option Nat} {T T' TI : ta} {hi hi' : Bool} {fl fl' : Int32} {n n' : Nat} {tp tp' : Nat → Int32} (C : CI z H b1 b2 Q Q2 I T hi TI fl n tp) {P : Nat → Prop} (F : Fz H H' P) (hP : ∀ q, P q → q < z + 36 ∨ (z + 64 ≤ q ∧ q < z + 120))
    (ob : ∃ sd, H'.2.2 z = jO 10 (obf z fl' sd I hi')) (sc : SC H' (z + 1) Q T') (sp : HB H' (z + 64)) (rd : RdC H' z) (re : ReC H' z n' tp') (dr : ∃ f, H'.2.2 (z + 99) = jI 5 f) (hh : hi' = true → hi = true)
    (p1 : H'.1 + 28 * nfr (dd Q Q2) + (if I = none then 35 else 0) ≤ b1') (p2 : H'.2.1 + 465 * nfr (dd Q Q2) + (if I = none then 543 else 0) ≤ b2') : CI z H' b1' b2' Q Q2 I T' hi' TI fl' n' tp' := by
  have hz := C.hz
  have A := C.da
  have out : ∀ a k, z + 120 ≤ a → av P a k := fun a k ha q h1 h2 h3 => by have := hP q h3; omega
  refine ⟨by have := F.1; omega, ob, sc, C.st.fz F (by omega) (fun q h1 h2 h3 => by have := hP q h3; omega), sp, rd, re, dr, ?_, fun h => C.ih (hh h), C.iq, A.top F.1, ?_, p1, p2⟩
  · intro i hi1
    have g := A.2.2.1 i hi1
    obtain ⟨g1, g2⟩ := C.im i hi1
    refine ⟨g1.fz F (by omega) (out i 35 (by omega)), fun h => (g2 (hh h)).fz F (by omega) (out i 35 (by omega)) (fun k b hk hb => ?_)⟩
    have := A.q2 k b hk hb
    exact ⟨by omega, out b 28 (by omega)⟩
  · intro k b hk hb
    have g := A.1 k b hk hb
    exact (C.dh k b hk hb).fz F (by omega) (out b 28 (by omega))
theorem RdC.fz {H H' : jh} {z : Nat} {P : Nat → Prop} (h : RdC H z) (F : Fz H H' P) (ht : z + 120 ≤ H.1) (ha : av P (z + 92) 4) : RdC H' z := by
  obtain ⟨f, g, k, q, h1, h2, h3, h4⟩ := h
  exact ⟨f, g, k, q, (F.2 _ (by omega) (ha _ (by omega) (by omega))).trans h1, (F.2 _ (by omega) (ha _ (by omega) (by omega))).trans h2, (F.2 _ (by omega) (ha _ (by omega) (by omega))).trans h3, (F.2 _ (by omega) (ha _ (by omega) (by omega))).trans h4⟩
theorem ReC.fz {H H' : jh} {z n : Nat} {tp : Nat → Int32} {P : Nat → Prop} (h : ReC H z n tp) (F : Fz H H' P) (ht : z + 120 ≤ H.1) (ha : av P (z + 96) 3) : ReC H' z n tp := by
  obtain ⟨tape, ops, ln, tk, ts, te, h1, h2, h3, h4⟩ := h
  exact ⟨tape, ops, ln, tk, ts, te, (F.2 _ (by omega) (ha _ (by omega) (by omega))).trans h1, (F.2 _ (by omega) (ha _ (by omega) (by omega))).trans h2, (F.2 _ (by omega) (ha _ (by omega) (by omega))).trans h3, h4⟩
theorem CI.scz {z : Nat} {H H' : jh} {b1 b2 : Nat} {Q Q2 : Nat → Option Nat} {I : Option Nat} {T TI : ta} {hi : Bool} {fl : Int32} {n : Nat} {tp : Nat → Int32} (C : CI z H b1 b2 Q Q2 I T hi TI fl n tp) {P : Nat → Prop} (F : Fz H H' P) (hP : ∀ q, P q → q < z + 1 ∨ (z + 36 ≤ q ∧ q < z + 120)) : SC H' (z + 1) Q T := by
  have hz := C.hz
  refine C.sc.fz F (by omega) (fun q h1 h2 h3 => by have := hP q h3; omega) (fun k b hk hb => ?_)
  have := C.da.q1 k b hk hb
  exact ⟨by omega, fun q h1 h2 h3 => by have := hP q h3; omega⟩
/-- nothing changed but that an exception was made -/
theorem CI.thr {z : Nat} {H : jh} {b1 b2 : Nat} {Q Q2 : Nat → Option Nat} {I : Option Nat} {T TI : ta} {hi : Bool} {fl : Int32} {n : Nat} {tp : Nat → Int32} (C : CI z H b1 b2 Q Q2 I T hi TI fl n tp) : CI z (jt H) (b1 + 1) (b2 + 6) Q Q2 I T hi TI fl n tp := by
  have F : Fz H (jt H) (fun _ => False) := ⟨Nat.le_succ _, fun _ _ _ => rfl⟩
  have p1 := C.p1
  have p2 := C.p2
  exact C.mk F (fun _ h => h.elim) C.ob (C.scz F (fun _ h => h.elim)) C.sp C.rd C.re C.dr id (by show H.1 + 1 + _ + _ ≤ _; omega) (by show H.2.1 + 6 + _ + _ ≤ _; omega)
theorem CI.le {z : Nat} {H : jh} {b1 b2 c1 c2 : Nat} {Q Q2 : Nat → Option Nat} {I : Option Nat} {T TI : ta} {hi : Bool} {fl : Int32} {n : Nat} {tp : Nat → Int32} (C : CI z H b1 b2 Q Q2 I T hi TI fl n tp) (h1 : b1 ≤ c1) (h2 : b2 ≤ c2) : CI z H c1 c2 Q Q2 I T hi TI fl n tp :=
  ⟨C.hz, C.ob, C.sc, C.st, C.sp, C.rd, C.re, C.dr, C.im, C.ih, C.iq, C.da, C.dh, Nat.le_trans C.p1 h1, Nat.le_trans C.p2 h2⟩
/-! what an act does to what is kept -/
def rfs (N : ms) (i : Nat) : ms := sw N 3 (upd (N 3) i (N 3 i + 1))
def pushP (P : Nat → vw) (k : Nat) (v : vw) : Nat → vw := if k = 40 then fun i => if i = 39 then v else P (i + 1) else fun i => if i = k then v else P i
def tAct (T : ta) (d : Int32 × vw) : ta := (d.2, (if d.1 = nm1 then T.2.1 else if T.2.1 = 40 then 40 else T.2.1 + 1), (if d.1 = nm1 then T.2.2.1 else pushP T.2.2.1 T.2.1 T.1), T.2.2.2.1, (if d.1 = nm1 then rfs T.2.2.2.2 1 else T.2.2.2.2))
def TO (T : ta) : Prop := OK T.1 ∧ T.2.1 ≤ 40 ∧ (∀ i, i < T.2.1 → OK (T.2.2.1 i)) ∧ T.2.2.2.1 ≤ 8 ∧ ∀ j, j < T.2.2.2.1 → ∃ a b d : Nat, T.2.2.2.2 0 j = nI a ∧ a < 8 ∧ T.2.2.2.2 1 j = nI b ∧ 1 ≤ b ∧ b ≤ 20 ∧ T.2.2.2.2 2 j = nI d ∧ d ≤ 1
theorem rfs_ne (N : ms) (i k : Nat) (h : k ≠ 3) : rfs N i k = N k := sw_ne _ _ _ _ h
theorem TO_act {T : ta} (h : TO T) (d : Int32 × vw) (hd : OK d.2) : TO (tAct T d) := by
  obtain ⟨h1, h2, h3, h4, h5⟩ := h
  unfold tAct
  by_cases h0 : d.1 = nm1
  · simp only [if_pos h0]
    refine ⟨hd, h2, h3, h4, fun j hj => ?_⟩
    show ∃ a b e : Nat, rfs T.2.2.2.2 1 0 j = nI a ∧ a < 8 ∧ rfs T.2.2.2.2 1 1 j = nI b ∧ 1 ≤ b ∧ b ≤ 20 ∧ rfs T.2.2.2.2 1 2 j = nI e ∧ e ≤ 1
    rw [rfs_ne _ _ _ (by omega), rfs_ne _ _ _ (by omega), rfs_ne _ _ _ (by omega)]
    exact h5 j hj
  · simp only [if_neg h0]
    refine ⟨hd, ?_, ?_, h4, h5⟩
    · show (if T.2.1 = 40 then 40 else T.2.1 + 1) ≤ 40
      split <;> omega
    · intro i hi
      have hi : i < (if T.2.1 = 40 then 40 else T.2.1 + 1) := hi
      show OK (pushP T.2.2.1 T.2.1 T.1 i)
      unfold pushP
      by_cases h6 : T.2.1 = 40
      · rw [if_pos h6] at hi
        simp only [if_pos h6]
        by_cases h7 : i = 39
        · rw [if_pos h7]; exact h1
        · rw [if_neg h7]; exact h3 _ (by omega)
      · rw [if_neg h6] at hi
        simp only [if_neg h6]
        by_cases h7 : i = T.2.1
        · rw [if_pos h7]; exact h1
        · rw [if_neg h7]; exact h3 _ (by omega)
theorem HV_attempt {H : jh} {w : Nat} {v : vw} (h : HV H w v) (K : OK v) (e : Nat) (p a b c d : Int32) (he : e < 11) : ∃ H', f_X11_attempt w e p a b c d H = some ((dDo v e p a b c d).1, H') ∧ HV H' w (dDo v e p a b c d).2 ∧ Fr H H' w 28 := by
  obtain ⟨W, h1, C⟩ := h
  obtain ⟨W', e1, C'⟩ := c_attempt (h := H) (w := w) C K.1 K.2 e p a b c d he
  rw [h1.eq] at e1
  exact ⟨_, e1, ⟨W', Hw_pw _ _ _, C'⟩, Fr_pw _ _ _⟩
theorem HB.at0 {H : jh} {w : Nat} (h : HB H w) : ∃ fs, H.2.2 w = jO 9 fs := by
  obtain ⟨W, h1⟩ := h
  exact ⟨_, h1 0 (by decide)⟩
theorem wr_wr (H : jh) (a : Nat) (c c' : jc) : jv_wr (jv_wr H a c) a c' = jv_wr H a c' := by
  unfold jv_wr
  simp only [Prod.mk.injEq, true_and]
  funext q
  by_cases h1 : q = a
  · simp only [if_pos h1]
  · simp only [if_neg h1]
theorem lt1_e {β : Type} (x : Int32) (K : Int32 → Option β) : lt1 x K = K x := rfl
/-- an act by call -/
theorem k_act {z : Nat} {H : jh} {b1 b2 : Nat} {Q Q2 : Nat → Option Nat} {I : Option Nat} {T TI : ta} {hi : Bool} {fl : Int32} {n : Nat} {tp : Nat → Int32} (C : CI z H b1 b2 Q Q2 I T hi TI fl n tp) (hT : TO T) (e : Nat) (p a b c d : Int32) (he : e < 11) :
    ∃ H' Q', f_X12_act z e p a b c d H = some ((dDo T.1 e p a b c d).1, H') ∧ CI z H' b1 b2 Q' Q2 I (tAct T (dDo T.1 e p a b c d)) hi TI fl n tp ∧ ∀ q, z + 100 ≤ q → q < z + 120 → H'.2.2 q = H.2.2 q := by
  have hz := C.hz
  have A := C.da
  obtain ⟨sd, hob⟩ := C.ob
  obtain ⟨x, n1, n2, n3, rf, S, hv, hx, hring, hnotes, hrf⟩ := C.sc
  obtain ⟨tO, tk, tP, tc, tn⟩ := hT
  -- the row is made ready
  obtain ⟨r, H1, Q1, D1, e1, S1, hB1, q1, q2, q3, F1, A1, d1, d2, m1, m2, m3⟩ := k_rowAt (z := z) (D := dd Q Q2) (I := I) S (by omega) hz A (fun k b hk hb => C.dh k b (by omega) (by rw [dd_1 _ _ _ hk]; exact hb)) 0 (Or.inl rfl) (fun j hj => by rw [Nat.zero_add]; exact dd_1 _ _ _ hj) x hx
  rw [Nat.zero_add] at d2
  have hr := A1.1 x r (by omega) d2
  have F1' : Fz H H1 (fun q => (z + 1 ≤ q ∧ q < z + 36) ∨ (r ≤ q ∧ q < r + 28)) := F1.mono (fun q hq => by omega)
  have hv1 : HV H1 (z + 1 + 1) T.1 := hv.fz F1 (by omega) (fun q g1 g2 => by omega)
  obtain ⟨H2, e2, hv2, F2⟩ := Hv_copy hB1 hv1 tO.1.bd (by omega)
  have S2 : StC H2 (z + 1) Q1 (nI x) (nI T.2.1) (nI T.2.2.2.1) n1 n2 n3 rf := S1.fz F2.z (by omega) (fun q hq => by unfold sown at hq; omega)
  obtain ⟨H3, e3, hv3, F3⟩ := HV_attempt (hv1.fr F2 (by omega)) tO e p a b c d he
  have S3 : StC H3 (z + 1) Q1 (nI x) (nI T.2.1) (nI T.2.2.2.1) n1 n2 n3 rf := S2.fz F3.z (by rw [F2.1]; omega) (fun q hq => by unfold sown at hq; omega)
  have F13 : Fz H H3 (fun q => (z + 1 ≤ q ∧ q < z + 36) ∨ (r ≤ q ∧ q < r + 28)) := F1'.tr ((F2.z.mono (fun q hq => Or.inr hq)).tr (F3.z.mono (fun q hq => by omega)))
  have hob1 : H1.2.2 z = jO 10 (obf z fl sd I hi) := by rw [F1.2 z (by omega) (by omega)]; exact hob
  have hob2 : H2.2.2 z = jO 10 (obf z fl sd I hi) := by rw [F2.2.2 z (by omega)]; exact hob1
  have hob3 : H3.2.2 z = jO 10 (obf z fl sd I hi) := by rw [F3.2.2 z (by omega)]; exact hob2
  obtain ⟨fs1, w1⟩ := hB1.at0
  obtain ⟨fs2, w2⟩ := (hv1.fr F2 (by omega)).b.at0
  have hD1 : D1 = dd Q1 Q2 := by
    funext k
    by_cases h1 : k = x
    · rw [h1, d2, dd_1 _ _ _ hx, q1]
    · rw [d1 k (by omega)]
      unfold dd
      by_cases h2 : k < 41
      · rw [if_pos h2, if_pos h2, q2 k h1]
      · rw [if_neg h2, if_neg h2]
  rw [hD1] at A1 m1 m2
  -- the other Worlds of the ring
  have ring : ∀ k c u, k < 41 → k ≠ x → Q1 k = some c → HV H c u → HV H3 c u := by
    intro k c u hk hkx hc hu
    have hc0 : Q k = some c := by rw [← q2 k hkx]; exact hc
    have g := A.q1 k c hk hc0
    have g2 := A1.2.1 k x c r (by omega) (by omega) hkx (by rw [dd_1 _ _ _ hk]; exact hc) (by rw [dd_1 _ _ _ hx]; exact q1)
    exact hu.fz F13 (by omega) (fun q h1 h2 h3 => by omega)
  have hv3r : HV H3 r T.1 := hv2.fr F3 (by omega)
  -- the end, for the heap after the last writes
  have fin : ∀ (H4 : jh) (x' k' : Nat) (rf' : Nat → Int32) (T' : ta), H4.1 = H3.1 → H4.2.1 = H3.2.1 → Fz H3 H4 (fun q => q = z + 1 ∨ q = z + 35) → StC H4 (z + 1) Q1 (nI x') (nI T'.2.1) (nI T'.2.2.2.1) n1 n2 n3 rf' → x' < 41 → T'.1 = (dDo T.1 e p a b c d).2 → T'.2.2.2.1 = T.2.2.2.1 → (∀ k, k ≠ 3 → T'.2.2.2.2 k = T.2.2.2.2 k) → (∀ j, j < 3 → rf' j = T'.2.2.2.2 3 j) → (∀ i, i < T'.2.1 → ∃ c, Q1 (rgi x' T'.2.1 i) = some c ∧ HV H3 c (T'.2.2.1 i)) →
      CI z H4 b1 b2 Q1 Q2 I T' hi TI fl n tp ∧ ∀ q, z + 100 ≤ q → q < z + 120 → H4.2.2 q = H.2.2 q := by
    intro H4 x' k' rf' T' g1 g2 F4 S4 hx' ht1 ht2 ht3 ht4 hr4
    have h31 : H1.1 = H3.1 := by rw [F3.1, F2.1]
    have h32 : H1.2.1 = H3.2.1 := by rw [F3.2.1, F2.2.1]
    have F14 : Fz H H4 (fun q => (z + 1 ≤ q ∧ q < z + 36) ∨ (r ≤ q ∧ q < r + 28)) := F13.tr (F4.mono (fun q hq => by omega))
    have hH1 : H.1 ≤ H1.1 := F1.1
    have i4 : ∀ i, I = some i → z + 120 ≤ i ∧ i + 35 ≤ H.1 ∧ (i + 35 ≤ r ∨ r + 28 ≤ i) := fun i hi1 => by
      have g3 := A.2.2.1 i hi1
      have g4 := A1.2.2.2 i x r hi1 (by omega) (by rw [dd_1 _ _ _ hx]; exact q1)
      omega
    have q4 : ∀ k c, k < 41 → Q2 k = some c → z + 120 ≤ c ∧ c + 28 ≤ H.1 ∧ (c + 28 ≤ r ∨ r + 28 ≤ c) := fun k c hk hc => by
      have g3 := A.q2 k c hk hc
      have g4 := A1.2.1 (41 + k) x c r (by omega) (by omega) (by omega) (by rw [dd_2]; exact hc) (by rw [dd_1 _ _ _ hx]; exact q1)
      omega
    refine ⟨⟨?_, ⟨sd, ?_⟩, ?_, ?_, ?_, ?_, ?_, ?_, ?_, C.ih, C.iq, ?_, ?_, ?_, ?_⟩, ?_⟩
    · have := F14.1; omega
    · rw [F4.2 z (by omega) (by omega)]; exact hob3
    · refine ⟨x', n1, n2, n3, rf', S4, ?_, hx', ?_, ?_, ht4⟩
      · rw [ht1]; exact hv3.fz F4 (by omega) (fun q h1 h2 => by omega)
      · intro i hi4
        obtain ⟨c, c1, c2⟩ := hr4 i hi4
        have g3 := A1.q1 _ c (rgi_lt _ _ _) c1
        exact ⟨c, c1, c2.fz F4 (by omega) (fun q h1 h2 => by omega)⟩
      · intro j hj
        rw [ht3 0 (by omega), ht3 1 (by omega), ht3 2 (by omega)]
        exact hnotes j (by omega)
    · exact C.st.fz F14 (by omega) (fun q h1 h2 => by omega)
    · exact C.sp.fz F14 (by omega) (fun q h1 h2 => by omega)
    · exact C.rd.fz F14 hz (fun q h1 h2 => by omega)
    · exact C.re.fz F14 hz (fun q h1 h2 => by omega)
    · obtain ⟨f, hf⟩ := C.dr; exact ⟨f, by rw [F14.2 _ (by omega) (by omega)]; exact hf⟩
    · intro i hi1
      have g3 := i4 i hi1
      obtain ⟨g5, g6⟩ := C.im i hi1
      refine ⟨g5.fz F14 (by omega) (fun q h1 h2 => by omega), fun h => (g6 h).fz F14 (by omega) (fun q h1 h2 => by omega) (fun k c hk hc => ?_)⟩
      have := q4 k c hk hc
      exact ⟨by omega, fun q h1 h2 => by omega⟩
    · rw [g1, ← h31]; exact A1
    · intro k c hk hc
      have g3 := A1.1 k c hk hc
      by_cases h5 : k = x
      · have : c = r := by rw [h5, dd_1 _ _ _ hx, q1] at hc; cases hc; rfl
        rw [this]; exact hv3r.b.fz F4 (by omega) (fun q h1 h2 => by omega)
      · have hc0 : dd Q Q2 k = some c := by rw [← d1 k (by omega), hD1]; exact hc
        have g5 := A.1 k c hk hc0
        have g6 := A1.2.1 k x c r hk (by omega) h5 hc (by rw [dd_1 _ _ _ hx]; exact q1)
        exact (C.dh k c hk hc0).fz F14 (by omega) (fun q h1 h2 => by omega)
    · have := C.p1; omega
    · have := C.p2; omega
    · intro q h1 h2
      exact F14.2 q (by omega) (by omega)
  have eready : f_X8_readyToKeep (z + 1) H = some ((), H2) := by
    unfold f_X8_readyToKeep
    rw [gI_of S.1 rfl, cV_of S.1, e1, bd_some, gR_of S1.1 rfl, nn_some, cV_of w1, e2, bd_some]
  unfold f_X12_act
  rw [gR_of hob rfl, cV_of S.1, eready, bd_some, gR_of hob2 rfl, gR_of S2.1 rfl, cV_of w2, e3, bd_some]
  generalize hdd : dDo T.1 e p a b c d = D at hv3 fin ⊢
  by_cases h0 : D.1 = nm1
  · rw [if_neg (show ¬ ¬ D.1 = (-1 : Int32) from not_not_intro h0), gR_of hob3 rfl, gR_of S3.1 rfl]
    rw [show (1 : Int32) = nI 1 from rfl, aI_of S3.2.2.2.2.2.2 (by decide) (by decide), sI_of S3.2.2.2.2.2.2 (by decide) (by decide)]
    refine ⟨_, Q1, rfl, ?_⟩
    have hk' : (tAct T D).2.1 = T.2.1 := by unfold tAct; exact if_pos h0
    have hP' : (tAct T D).2.2.1 = T.2.2.1 := by unfold tAct; exact if_pos h0
    have hN' : (tAct T D).2.2.2.2 = rfs T.2.2.2.2 1 := by unfold tAct; exact if_pos h0
    refine fin _ x T.2.1 (upd rf 1 (rf 1 + nI 1)) (tAct T D) rfl rfl ⟨Nat.le_refl _, fun q _ hq => wr_ne _ _ _ _ (by omega)⟩ ?_ hx rfl rfl ?_ ?_ ?_
    · rw [hk']
      refine ⟨?_, ?_, ?_, ?_, ?_, ?_, ?_⟩
      · rw [wr_ne _ _ _ _ (by omega)]; exact S3.1
      · rw [wr_ne _ _ _ _ (by omega)]; exact S3.2.1
      · rw [wr_ne _ _ _ _ (by omega)]; exact S3.2.2.1
      · rw [wr_ne _ _ _ _ (by omega)]; exact S3.2.2.2.1
      · rw [wr_ne _ _ _ _ (by omega)]; exact S3.2.2.2.2.1
      · rw [wr_ne _ _ _ _ (by omega)]; exact S3.2.2.2.2.2.1
      · rw [wr_at]
    · intro k hk; rw [hN']; exact rfs_ne _ _ _ hk
    · intro j hj
      rw [hN']
      unfold rfs
      rw [sw_eq]
      unfold upd
      by_cases h1 : j = 1
      · rw [if_pos h1, if_pos h1, hrf 1 (by omega)]; rfl
      · rw [if_neg h1, if_neg h1]; exact hrf j hj
    · rw [hk', hP']
      intro i hi1
      obtain ⟨c, c1, c2⟩ := hring i hi1
      have hne : rgi x T.2.1 i ≠ x := by unfold rgi; omega
      refine ⟨c, by rw [q2 _ hne]; exact c1, ring _ c _ (rgi_lt _ _ _) hne (by rw [q2 _ hne]; exact c1) c2⟩
  · rw [if_pos (show ¬ D.1 = (-1 : Int32) from h0), gR_of hob3 rfl, cV_of S3.1]
    have hk' : (tAct T D).2.1 = if T.2.1 = 40 then 40 else T.2.1 + 1 := by unfold tAct; exact if_neg h0
    have hP' : (tAct T D).2.2.1 = pushP T.2.2.1 T.2.1 T.1 := by unfold tAct; exact if_neg h0
    have hN' : (tAct T D).2.2.2.2 = T.2.2.2.2 := by unfold tAct; exact if_neg h0
    have ek : f_X8_keep (z + 1) H3 = some ((), jv_wr H3 (z + 1) (jO 6 [.ref (z + 1 + 1), .ref (z + 1 + 29), .ref (z + 1 + 30), .ref (z + 1 + 34), .int (nI (if x = 40 then 0 else x + 1)), .int (nI (if T.2.1 = 40 then 40 else T.2.1 + 1))])) := by
      have b22 : ∀ y : Nat, f_X8_keep_b22 (z + 1) (nI y) (z + 1) H3 = some ((), jv_wr H3 (z + 1) (jO 6 [.ref (z + 1 + 1), .ref (z + 1 + 29), .ref (z + 1 + 30), .ref (z + 1 + 34), .int (nI y), .int (nI (if T.2.1 = 40 then 40 else T.2.1 + 1))])) := by
        intro y
        unfold f_X8_keep_b22
        rw [pV_of S3.1 (Nat.le_of_ble_eq_true rfl), gI_of (wr_at _ _ _) rfl, lt1_e, pV_of (wr_at _ _ _) (Nat.le_of_ble_eq_true (by rfl))]
        have e4 : (if (40 : Int32) < nI T.2.1 + 1 then (40 : Int32) else nI T.2.1 + 1) = nI (if T.2.1 = 40 then 40 else T.2.1 + 1) := by
          rw [show nI T.2.1 + 1 = nI (T.2.1 + 1) from al_add _ 1, show (40 : Int32) = nI 40 from rfl]
          by_cases h1 : T.2.1 = 40
          · rw [if_pos h1, if_pos (by rw [al_lt (by omega) (by omega)]; omega)]
          · rw [if_neg h1, if_neg (by rw [al_lt (by omega) (by omega)]; omega)]
        rw [e4, wr_wr]
        rfl
      unfold f_X8_keep
      rw [gI_of S3.1 rfl, gI_of S3.1 rfl, show nI x + 1 = nI (x + 1) from al_add _ 1, show (41 : Int32) = nI 41 from rfl]
      by_cases h1 : x = 40
      · rw [if_pos (by rw [al_le (by omega) (by omega)]; omega), if_pos h1]; exact b22 0
      · rw [if_neg (by rw [al_le (by omega) (by omega)]; omega), if_neg h1]; exact b22 (x + 1)
    rw [ek, bd_some]
    refine ⟨_, Q1, rfl, ?_⟩
    refine fin _ (if x = 40 then 0 else x + 1) T.2.1 rf (tAct T D) rfl rfl ⟨Nat.le_refl _, fun q _ hq => wr_ne _ _ _ _ (by omega)⟩ ?_ (by split <;> omega) rfl rfl (fun k _ => by rw [hN']) (fun j hj => by rw [hN']; exact hrf j hj) ?_
    · rw [hk']
      refine ⟨?_, ?_, ?_, ?_, ?_, ?_, ?_⟩
      · rw [wr_at]
      · rw [wr_ne _ _ _ _ (by omega)]; exact S3.2.1
      · rw [wr_ne _ _ _ _ (by omega)]; exact S3.2.2.1
      · rw [wr_ne _ _ _ _ (by omega)]; exact S3.2.2.2.1
      · rw [wr_ne _ _ _ _ (by omega)]; exact S3.2.2.2.2.1
      · rw [wr_ne _ _ _ _ (by omega)]; exact S3.2.2.2.2.2.1
      · rw [wr_ne _ _ _ _ (by omega)]; exact S3.2.2.2.2.2.2
    · rw [hk', hP']
      intro i hi1
      unfold pushP
      by_cases h6 : T.2.1 = 40
      · rw [if_pos h6] at hi1 ⊢
        simp only [if_pos h6]
        by_cases h7 : i = 39
        · rw [if_pos h7]
          refine ⟨r, ?_, hv3r⟩
          rw [show rgi (if x = 40 then 0 else x + 1) 40 i = x by unfold rgi; split <;> omega]
          exact q1
        · rw [if_neg h7]
          obtain ⟨c, c1, c2⟩ := hring (i + 1) (by omega)
          have hne : rgi x T.2.1 (i + 1) ≠ x := by unfold rgi; omega
          have heq : rgi (if x = 40 then 0 else x + 1) 40 i = rgi x T.2.1 (i + 1) := by unfold rgi; split <;> omega
          rw [heq]
          exact ⟨c, by rw [q2 _ hne]; exact c1, ring _ c _ (rgi_lt _ _ _) hne (by rw [q2 _ hne]; exact c1) c2⟩
      · rw [if_neg h6] at hi1 ⊢
        simp only [if_neg h6]
        by_cases h7 : i = T.2.1
        · rw [if_pos h7]
          refine ⟨r, ?_, hv3r⟩
          rw [show rgi (if x = 40 then 0 else x + 1) (T.2.1 + 1) i = x by unfold rgi; split <;> omega]
          exact q1
        · rw [if_neg h7]
          obtain ⟨c, c1, c2⟩ := hring i (by omega)
          have hne : rgi x T.2.1 i ≠ x := by unfold rgi; omega
          have heq : rgi (if x = 40 then 0 else x + 1) (T.2.1 + 1) i = rgi x T.2.1 i := by unfold rgi; split <;> omega
          rw [heq]
          exact ⟨c, by rw [q2 _ hne]; exact c1, ring _ c _ (rgi_lt _ _ _) hne (by rw [q2 _ hne]; exact c1) c2⟩
