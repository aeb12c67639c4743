/-! the class reads spaces -/
def Byt (tp : Nat → Int32) (N : Nat) : Nat → Nat := fun j => if j < N then cl (tp j) 256 else 300
theorem Bt_e {n : Nat} {tp : Nat → Int32} (h : BY n tp) (j : Nat) (hj : j < n) : tp j = nI (cl (tp j) 256) ∧ cl (tp j) 256 < 256 := by
  obtain ⟨b, h1, h2⟩ := h.2 j hj
  rw [h2, cl_in h1 (by decide)]
  exact ⟨rfl, h1⟩
theorem Bt_b {n N : Nat} {tp : Nat → Int32} (h : BY n tp) (hN : N ≤ n) : BB (Byt tp N) N := by
  have hn := h.1
  refine ⟨by omega, fun j hj => ?_, fun j hj => if_neg (by omega)⟩
  show (if j < N then cl (tp j) 256 else 300) < 256
  rw [if_pos hj]
  exact (Bt_e h j (by omega)).2
def tSp (T : ta) (P : Nat × Nat × List (Nat × List Int32)) : ta := if P.1 = 0 then (runL P.2.2 v0, 0, T.2.2.1, 0, T.2.2.2.2) else tRef T 0
theorem CI.w0 {z : Nat} {H : jh} {b1 b2 : Nat} {Q Q2 : Nat → Option Nat} {I : Option Nat} {T TI : ta} {hi : Bool} {fl : Int32} {n : Nat} {tp : Nat → Int32} (C : CI z H b1 b2 Q Q2 I T hi TI fl n tp) (fl' sd' : Int32) (hi' : Bool) (hh : hi' = true → hi = true) : CI z (jv_wr H z (jO 10 (obf z fl' sd' I hi'))) b1 b2 Q Q2 I T hi' TI fl' n tp := by
  have hz := C.hz
  have F : Fz H (jv_wr H z (jO 10 (obf z fl' sd' I hi'))) (fun q => q = z) := Fz_wr _ _ _ _ rfl
  have o : ∀ q, q ≠ z → (jv_wr H z (jO 10 (obf z fl' sd' I hi'))).2.2 q = H.2.2 q := fun q hq => wr_ne _ _ _ _ hq
  refine C.mk F (fun q hq => by omega) ⟨sd', if_pos rfl⟩ (C.scz F (fun q hq => by omega)) (C.sp.fz F (by omega) (fun q g1 g2 => by omega)) (C.rd.fz F hz (fun q g1 g2 => by omega)) ?_ ?_ hh C.p1 C.p2
  · obtain ⟨tape, ops, ln, tk, ts, te, h1, h2, h3, h4⟩ := C.re
    exact ⟨tape, ops, ln, tk, ts, te, by rw [o _ (by omega)]; exact h1, by rw [o _ (by omega)]; exact h2, by rw [o _ (by omega)]; exact h3, h4⟩
  · obtain ⟨f, e⟩ := C.dr
    exact ⟨f, by rw [o _ (by omega)]; exact e⟩
theorem CI.p6 {z : Nat} {H : jh} {b1 b2 : Nat} {Q Q2 : Nat → Option Nat} {I : Option Nat} {T TI : ta} {hi : Bool} {fl : Int32} {n : Nat} {tp : Nat → Int32} (C : CI z H b1 b2 Q Q2 I T hi TI fl n tp) (x : Int32) : ∃ H', (∀ {β : Type} (K : jh → Option β), pV H z 10 6 (.int x) K = K H') ∧ CI z H' b1 b2 Q Q2 I T hi TI x n tp ∧ H'.1 = H.1 ∧ H'.2.1 = H.2.1 ∧ ∀ q, q ≠ z → H'.2.2 q = H.2.2 q := by
  obtain ⟨sd, e⟩ := C.ob
  exact ⟨_, fun K => pV_of e (Nat.le_of_ble_eq_true rfl) K, C.w0 x sd hi id, rfl, rfl, fun q hq => wr_ne _ _ _ _ hq⟩
theorem CI.p9 {z : Nat} {H : jh} {b1 b2 : Nat} {Q Q2 : Nat → Option Nat} {I : Option Nat} {T TI : ta} {hi : Bool} {fl : Int32} {n : Nat} {tp : Nat → Int32} (C : CI z H b1 b2 Q Q2 I T hi TI fl n tp) : ∃ H', (∀ {β : Type} (K : jh → Option β), pV H z 10 9 (.int 0) K = K H') ∧ CI z H' b1 b2 Q Q2 I T false TI fl n tp ∧ ∀ q, q ≠ z → H'.2.2 q = H.2.2 q := by
  obtain ⟨sd, e⟩ := C.ob
  exact ⟨_, fun K => pV_of e (Nat.le_of_ble_eq_true rfl) K, C.w0 fl sd false (fun h => by cases h), fun q hq => wr_ne _ _ _ _ hq⟩
theorem k_spaces {z : Nat} {H : jh} {b1 b2 : Nat} {Q Q2 : Nat → Option Nat} {I : Option Nat} {T TI : ta} {hi : Bool} {fl : Int32} {n : Nat} {tp : Nat → Int32} (C : CI z H b1 b2 Q Q2 I T hi TI fl n tp) (hb : BY n tp) (N : Nat) (hN : N ≤ n) : ∃ H', f_X12_spaces z (nI N) H = some (.inl (nI (prl (Byt tp N) N 61 0 0).1), H') ∧ CI z H' b1 b2 Q Q2 I (tSp T (prl (Byt tp N) N 61 0 0)) (if (prl (Byt tp N) N 61 0 0).1 = 0 then false else hi) TI (if (prl (Byt tp N) N 61 0 0).1 = 0 then nm1 else nI (prl (Byt tp N) N 61 0 0).2.1) 0 tp ∧ ∀ q, z + 100 ≤ q → q < z + 120 → H'.2.2 q = H.2.2 q := by
  have hz := C.hz
  have hB := Bt_b hb hN
  have h9 := hb.1
  obtain ⟨tape, ops, ln, tk, ts, te, h1, h2, h3, h4⟩ := C.re
  have htp : ∀ j, j < N → tape j = nI (Byt tp N j) := by
    intro j hj
    show _ = nI (if j < N then cl (tp j) 256 else 300)
    rw [if_pos hj, h4 j (by omega)]
    exact (Bt_e hb j (by omega)).1
  obtain ⟨H1, e1, hv1, F1⟩ := Hv_copy C.sp C.st OK_0.1.bd (by omega)
  have hp := pre_id (H := H1) (z := z) (tape := tape) (ops := ops) (n := nI n) (ln := ln) (tk := tk) (ts := ts) (te := te) (by rw [F1.2.2 _ (by omega)]; exact h1) (by rw [F1.2.2 _ (by omega)]; exact h2) (by rw [F1.2.2 _ (by omega)]; exact h3)
  obtain ⟨H2, o2, tk2, ts2, te2, v2, g1, g2, g3, g4, g5, g6, g7⟩ := c_read (H := H1) (z := z) (n := nI n) hB htp ops ln tk ts te v0 hv1 OK_0
  have hP := prl_b hB 61 0 0 (Nat.zero_le _)
  generalize prl (Byt tp N) N 61 0 0 = P at g1 g3 g4 hP ⊢
  rw [hp] at g1
  obtain ⟨sd, hob⟩ := C.ob
  have hob1 : H1.2.2 z = jO 10 (obf z fl sd I hi) := by rw [F1.2.2 _ (by omega)]; exact hob
  have hob2 : ∀ (m : Int32), (pre H2 z tape o2 m (nI N) tk2 ts2 te2).2.2 z = jO 10 (obf z fl sd I hi) := fun m => by rw [pre_o _ (by omega), g7 _ (by unfold inR; omega)]; exact hob1
  have F13 : Fz H (pre H2 z tape o2 (nI 0) (nI N) tk2 ts2 te2) (inR z) := ⟨by show H.1 ≤ H2.1; rw [g5, F1.1]; exact Nat.le_refl _, fun q _ hq => by rw [pre_o q (by unfold inR at hq; omega), g7 q hq, F1.2.2 q (by unfold inR at hq; omega)]⟩
  have o13 : ∀ q, ¬ inR z q → (pre H2 z tape o2 (nI 0) (nI N) tk2 ts2 te2).2.2 q = H.2.2 q := fun q hq => by rw [pre_o q (by unfold inR at hq; omega), g7 q hq, F1.2.2 q (by unfold inR at hq; omega)]
  have C13 : CI z (pre H2 z tape o2 (nI 0) (nI N) tk2 ts2 te2) b1 b2 Q Q2 I T hi TI fl 0 tp := by
    refine C.mk F13 (fun q hq => by unfold inR at hq; omega) ⟨sd, hob2 _⟩ (C.scz F13 (fun q hq => by unfold inR at hq; omega)) (g2.b.fr (pre_fr _ _ _ _ _) (by omega)) (C.rd.fz F13 hz (fun q g1 g2 => by unfold inR; omega)) ⟨tape, o2, nI N, tk2, ts2, te2, pre_96, pre_97, pre_98, fun j hj => absurd hj (Nat.not_lt_zero j)⟩ ?_ id ?_ ?_
    · obtain ⟨f, e⟩ := C.dr
      exact ⟨f, by rw [o13 _ (by unfold inR; omega)]; exact e⟩
    · have := C.p1
      have e5 : H2.1 = H.1 := g5.trans F1.1
      show H2.1 + _ + _ ≤ _
      rw [e5]; exact this
    · have := C.p2
      have e5 : H2.2.1 = H.2.1 := g6.trans F1.2.1
      show H2.2.1 + _ + _ ≤ _
      rw [e5]; exact this
  have st : f_X12_spaces z (nI N) H = (if nI P.1 = 0 then
      pV (pre H2 z tape o2 (nI 0) (nI N) tk2 ts2 te2) z 10 6 (.int (-1)) fun h15 => gR h15 z 10 0 fun v16 => gR h15 v16 6 0 fun v17 => gR h15 z 10 2 fun v18 => cV h15 v17 9 (f_X11_copy v17 v18 h15) fun _ h19 => gR h19 z 10 0 fun v20 => pV h19 v20 6 5 (.int 0) fun h21 => gR h21 z 10 0 fun v22 => gR h21 v22 6 2 fun v23 => pV h21 v23 1 3 (.int 0) fun h24 => pV h24 z 10 9 (.int 0) fun h25 => some (.inl 0, h25)
      else gR (pre H2 z tape o2 (nI 0) (nI N) tk2 ts2 te2) z 10 4 fun v26 => gI (pre H2 z tape o2 (nI 0) (nI N) tk2 ts2 te2) v26 4 5 fun v27 => pV (pre H2 z tape o2 (nI 0) (nI N) tk2 ts2 te2) z 10 6 (.int v27) fun h28 => gR h28 z 10 0 fun v29 => gR h28 v29 6 3 fun v30 => aI h28 v30 0 fun v31 => sI h28 v30 0 (v31 + 1) fun h32 => some (.inl (nI P.1), h32)) := by
    unfold f_X12_spaces
    obtain ⟨fs, hfs⟩ := C.sp.at0
    rw [if_neg (show ¬ nI N < 0 by rw [al_neg (by omega)]; exact id), C.r4, C.tp2, if_pos (show nI N ≤ nI n by rw [al_le (by omega) (by omega)]; exact hN), C.r2, C.r1, cV_of hfs, e1, bd_some, gR_of hob1 rfl, gR_of hob1 rfl, cV_of (show H1.2.2 (z + 96) = _ by rw [F1.2.2 _ (by omega)]; exact h1), g1, bd_some, gR_of (hob2 _) rfl, pp_2]
    rfl
  have e0 : (nI P.1 = 0) = (P.1 = 0) := al_eq (b := 0) (by omega) (by omega)
  rw [st]
  unfold tSp
  by_cases c0 : P.1 = 0
  · rw [if_pos (by rw [e0]; exact c0), if_pos c0, if_pos c0, if_pos c0, c0]
    obtain ⟨H15, p1, C15, q1, q2, p3⟩ := C13.p6 nm1
    have hv15 : HV H15 (z + 64) v2 := (g2.fr (pre_fr (tape := tape) o2 (nI N) tk2 ts2 te2) (by omega)).fr (n := 1) (a := z) ⟨q1, q2, fun q hq => p3 q (by omega)⟩ (by omega)
    obtain ⟨x, n1, n2, n3, rf, S, hvw, hx, hring, hn, hr⟩ := C15.sc
    have hO2 : OK v2 := by rw [g3 c0]; exact runL_ok _ _ OK_0
    obtain ⟨H19, e19, hv19, F19⟩ := Hv_copy hvw.b hv15 hO2.1.bd (by omega)
    obtain ⟨fs, hfs⟩ := hvw.b.at0
    have S19 : StC H19 (z + 1) Q (nI x) (nI T.2.1) (nI T.2.2.2.1) n1 n2 n3 rf := S.fz F19.z (by have := C15.hz; omega) (fun q hq => by unfold sown at hq; omega)
    have S21 := S19.w0 (nI x) (nI 0)
    have S24 := S21.w30 (nI 0)
    have o19 : ∀ q, ¬ (z + 1 ≤ q ∧ q < z + 36) → (jv_wr (jv_wr H19 (z + 1) (jO 6 [.ref (z + 1 + 1), .ref (z + 1 + 29), .ref (z + 1 + 30), .ref (z + 1 + 34), .int (nI x), .int (nI 0)])) (z + 1 + 30) (jO 1 [.ref (z + 1 + 31), .ref (z + 1 + 32), .ref (z + 1 + 33), .int (nI 0)])).2.2 q = H15.2.2 q := by
      intro q hq
      rw [wr_ne _ _ _ _ (by omega), wr_ne _ _ _ _ (by omega), F19.2.2 q (by omega)]
    obtain ⟨sd15, ob15⟩ := C15.ob
    have F24 : Fz H15 (jv_wr (jv_wr H19 (z + 1) (jO 6 [.ref (z + 1 + 1), .ref (z + 1 + 29), .ref (z + 1 + 30), .ref (z + 1 + 34), .int (nI x), .int (nI 0)])) (z + 1 + 30) (jO 1 [.ref (z + 1 + 31), .ref (z + 1 + 32), .ref (z + 1 + 33), .int (nI 0)])) (fun q => z + 1 ≤ q ∧ q < z + 36) := ⟨by show H15.1 ≤ H19.1; rw [F19.1]; exact Nat.le_refl _, fun q _ hq => o19 q hq⟩
    have hz15 := C15.hz
    have C24 : CI z (jv_wr (jv_wr H19 (z + 1) (jO 6 [.ref (z + 1 + 1), .ref (z + 1 + 29), .ref (z + 1 + 30), .ref (z + 1 + 34), .int (nI x), .int (nI 0)])) (z + 1 + 30) (jO 1 [.ref (z + 1 + 31), .ref (z + 1 + 32), .ref (z + 1 + 33), .int (nI 0)])) b1 b2 Q Q2 I (v2, 0, T.2.2.1, 0, T.2.2.2.2) hi TI nm1 0 tp := by
      refine C15.mk F24 (fun q hq => by omega) ⟨sd15, by rw [o19 _ (by omega)]; exact ob15⟩ ⟨x, n1, n2, n3, rf, S24, ?_, hx, fun i hi => absurd hi (Nat.not_lt_zero i), fun i hi => absurd hi (Nat.not_lt_zero i), hr⟩ (C15.sp.fz F24 (by omega) (fun q g1 g2 => by omega)) (C15.rd.fz F24 hz15 (fun q g1 g2 => by omega)) ?_ ?_ id ?_ ?_
      · exact (hv19.fr (Fr_wr _ _ _) (by omega)).fr (Fr_wr _ _ _) (by omega)
      · obtain ⟨tape, ops, ln, tk, ts, te, h1, h2, h3, h4⟩ := C15.re
        exact ⟨tape, ops, ln, tk, ts, te, by rw [o19 _ (by omega)]; exact h1, by rw [o19 _ (by omega)]; exact h2, by rw [o19 _ (by omega)]; exact h3, h4⟩
      · obtain ⟨f, e⟩ := C15.dr
        exact ⟨f, by rw [o19 _ (by omega)]; exact e⟩
      · have := C15.p1
        show H19.1 + _ + _ ≤ _
        rw [F19.1]; exact this
      · have := C15.p2
        show H19.2.1 + _ + _ ≤ _
        rw [F19.2.1]; exact this
    obtain ⟨H25, r1, C25, r3⟩ := C24.p9
    refine ⟨H25, ?_, by rw [← g3 c0]; exact C25, fun q k1 k2 => ?_⟩
    · rw [show (-1 : Int32) = nm1 from rfl, p1, C15.r0, C15.s0, C15.r2, cV_of hfs, e19, bd_some, gR_of (show H19.2.2 z = _ by rw [F19.2.2 _ (by omega)]; exact ob15) rfl, pV_of S19.1 (Nat.le_of_ble_eq_true rfl)]
      refine Eq.trans (gR_of (show _ = jO 10 (obf z nm1 sd15 I hi) by rw [wr_ne _ _ _ _ (by omega), F19.2.2 _ (by omega)]; exact ob15) rfl _) ?_
      refine Eq.trans (gR_of S21.1 rfl _) ?_
      refine Eq.trans (pV_of S21.2.2.1 (Nat.le_of_ble_eq_true rfl) _) ?_
      exact r1 _
    · rw [r3 q (by omega), o19 q (by omega), p3 q (by omega), o13 q (by unfold inR; omega)]
  · rw [if_neg (by rw [e0]; exact c0), if_neg c0, if_neg c0, if_neg c0]
    have hts := g4 c0
    subst hts
    obtain ⟨H28, p1, C28, -, -, p3⟩ := C13.p6 (nI P.2.1)
    obtain ⟨H32, r1, C32, r3⟩ := k_ref C28 0 (by decide)
    refine ⟨H32, ?_, C32, fun q k1 k2 => ?_⟩
    · rw [gR_of (hob2 _) rfl, pe_5, p1]
      exact r1 _
    · rw [r3 q k1 k2, p3 q (by omega), o13 q (by unfold inR; omega)]
theorem k_spacesX {z : Nat} {H : jh} {b1 b2 : Nat} {Q Q2 : Nat → Option Nat} {I : Option Nat} {T TI : ta} {hi : Bool} {fl : Int32} {n : Nat} {tp : Nat → Int32} (C : CI z H b1 b2 Q Q2 I T hi TI fl n tp) (hb : BY n tp) (a : Int32) (ha : a < 0 ∨ nI (n + 1) ≤ a) : f_X12_spaces z a H = some (.inr "java/lang/IllegalArgumentException", jt H) := by
  have h9 := hb.1
  unfold f_X12_spaces
  by_cases h0 : a < 0
  · rw [if_pos h0]
  · rw [if_neg h0, C.r4, C.tp2, if_neg (fun h => ?_)]
    rcases ha with ha | ha
    · exact h0 ha
    · have := Int32.le_trans ha h
      rw [al_le (by omega) (by omega)] at this
      omega
