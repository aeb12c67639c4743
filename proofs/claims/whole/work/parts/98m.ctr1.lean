/-! the class: refusals, notes, undo, acts by call -/
section STW
variable {H : jh} {a : Nat} {Q : Nat → Option Nat} {x k c : Int32} {n1 n2 n3 rf : Nat → Int32}
theorem StC.w31 (S : StC H a Q x k c n1 n2 n3 rf) (r : Nat → Int32) : StC (jv_wr H (a + 31) (jI 8 r)) a Q x k c r n2 n3 rf := by
  refine ⟨?_, ?_, ?_, ?_, ?_, ?_, ?_⟩
  · rw [wr_ne _ _ _ _ (by omega)]; exact S.1
  · rw [wr_ne _ _ _ _ (by omega)]; exact S.2.1
  · rw [wr_ne _ _ _ _ (by omega)]; exact S.2.2.1
  · rw [wr_at]
  · rw [wr_ne _ _ _ _ (by omega)]; exact S.2.2.2.2.1
  · rw [wr_ne _ _ _ _ (by omega)]; exact S.2.2.2.2.2.1
  · rw [wr_ne _ _ _ _ (by omega)]; exact S.2.2.2.2.2.2
theorem StC.w32 (S : StC H a Q x k c n1 n2 n3 rf) (r : Nat → Int32) : StC (jv_wr H (a + 32) (jI 8 r)) a Q x k c n1 r n3 rf := by
  refine ⟨?_, ?_, ?_, ?_, ?_, ?_, ?_⟩
  · rw [wr_ne _ _ _ _ (by omega)]; exact S.1
  · rw [wr_ne _ _ _ _ (by omega)]; exact S.2.1
  · rw [wr_ne _ _ _ _ (by omega)]; exact S.2.2.1
  · rw [wr_ne _ _ _ _ (by omega)]; exact S.2.2.2.1
  · rw [wr_at]
  · rw [wr_ne _ _ _ _ (by omega)]; exact S.2.2.2.2.2.1
  · rw [wr_ne _ _ _ _ (by omega)]; exact S.2.2.2.2.2.2
theorem StC.w33 (S : StC H a Q x k c n1 n2 n3 rf) (r : Nat → Int32) : StC (jv_wr H (a + 33) (jI 8 r)) a Q x k c n1 n2 r rf := by
  refine ⟨?_, ?_, ?_, ?_, ?_, ?_, ?_⟩
  · rw [wr_ne _ _ _ _ (by omega)]; exact S.1
  · rw [wr_ne _ _ _ _ (by omega)]; exact S.2.1
  · rw [wr_ne _ _ _ _ (by omega)]; exact S.2.2.1
  · rw [wr_ne _ _ _ _ (by omega)]; exact S.2.2.2.1
  · rw [wr_ne _ _ _ _ (by omega)]; exact S.2.2.2.2.1
  · rw [wr_at]
  · rw [wr_ne _ _ _ _ (by omega)]; exact S.2.2.2.2.2.2
theorem StC.w34 (S : StC H a Q x k c n1 n2 n3 rf) (r : Nat → Int32) : StC (jv_wr H (a + 34) (jI 3 r)) a Q x k c n1 n2 n3 r := by
  refine ⟨?_, ?_, ?_, ?_, ?_, ?_, ?_⟩
  · rw [wr_ne _ _ _ _ (by omega)]; exact S.1
  · rw [wr_ne _ _ _ _ (by omega)]; exact S.2.1
  · rw [wr_ne _ _ _ _ (by omega)]; exact S.2.2.1
  · rw [wr_ne _ _ _ _ (by omega)]; exact S.2.2.2.1
  · rw [wr_ne _ _ _ _ (by omega)]; exact S.2.2.2.2.1
  · rw [wr_ne _ _ _ _ (by omega)]; exact S.2.2.2.2.2.1
  · rw [wr_at]
theorem StC.w30 (S : StC H a Q x k c n1 n2 n3 rf) (c' : Int32) : StC (jv_wr H (a + 30) (jO 1 [.ref (a + 31), .ref (a + 32), .ref (a + 33), .int c'])) a Q x k c' n1 n2 n3 rf := by
  refine ⟨?_, ?_, ?_, ?_, ?_, ?_, ?_⟩
  · rw [wr_ne _ _ _ _ (by omega)]; exact S.1
  · rw [wr_ne _ _ _ _ (by omega)]; exact S.2.1
  · rw [wr_at]
  · rw [wr_ne _ _ _ _ (by omega)]; exact S.2.2.2.1
  · rw [wr_ne _ _ _ _ (by omega)]; exact S.2.2.2.2.1
  · rw [wr_ne _ _ _ _ (by omega)]; exact S.2.2.2.2.2.1
  · rw [wr_ne _ _ _ _ (by omega)]; exact S.2.2.2.2.2.2
theorem StC.w0 (S : StC H a Q x k c n1 n2 n3 rf) (x' k' : Int32) : StC (jv_wr H a (jO 6 [.ref (a + 1), .ref (a + 29), .ref (a + 30), .ref (a + 34), .int x', .int k'])) a Q x' k' c n1 n2 n3 rf := by
  refine ⟨?_, ?_, ?_, ?_, ?_, ?_, ?_⟩
  · rw [wr_at]
  · rw [wr_ne _ _ _ _ (by omega)]; exact S.2.1
  · rw [wr_ne _ _ _ _ (by omega)]; exact S.2.2.1
  · rw [wr_ne _ _ _ _ (by omega)]; exact S.2.2.2.1
  · rw [wr_ne _ _ _ _ (by omega)]; exact S.2.2.2.2.1
  · rw [wr_ne _ _ _ _ (by omega)]; exact S.2.2.2.2.2.1
  · rw [wr_ne _ _ _ _ (by omega)]; exact S.2.2.2.2.2.2
end STW
theorem Fz_wr (H : jh) (a : Nat) (c : jc) (P : Nat → Prop) (h : P a) : Fz H (jv_wr H a c) P := ⟨Nat.le_refl _, fun q _ hq => wr_ne _ _ _ _ (fun e => hq (by rw [e]; exact h))⟩
/-- the State's own cells written -/
theorem CI.own {z : Nat} {H : jh} {b1 b2 : Nat} {Q Q2 : Nat → Option Nat} {I : Option Nat} {T TI : ta} {hi : Bool} {fl : Int32} {n : Nat} {tp : Nat → Int32} (C : CI z H b1 b2 Q Q2 I T hi TI fl n tp) {H' : jh} {T' : ta} {b1' b2' : Nat} (F : Fz H H' (fun q => sown (z + 1) q)) (e1 : H'.1 = H.1) (e2 : H'.2.1 = H.2.1) {x : Nat} {n1 n2 n3 rf : Nat → Int32} (S : StC H' (z + 1) Q (nI x) (nI T'.2.1) (nI T'.2.2.2.1) n1 n2 n3 rf) (hx : x < 41) (t1 : T'.1 = T.1) (ring : ∀ i, i < T'.2.1 → ∃ b, Q (rgi x T'.2.1 i) = some b ∧ HV H b (T'.2.2.1 i)) (hn : ∀ j, j < T'.2.2.2.1 → n1 j = T'.2.2.2.2 0 j ∧ n2 j = T'.2.2.2.2 1 j ∧ n3 j = T'.2.2.2.2 2 j) (hr : ∀ j, j < 3 → rf j = T'.2.2.2.2 3 j) (q1 : b1 ≤ b1') (q2 : b2 ≤ b2') : CI z H' b1' b2' Q Q2 I T' hi TI fl n tp ∧ ∀ q, z + 100 ≤ q → q < z + 120 → H'.2.2 q = H.2.2 q := by
  have hz := C.hz
  obtain ⟨x0, m1, m2, m3, rf0, S0, hv, -⟩ := C.sc
  have nz : ∀ q, sown (z + 1) q → z + 1 ≤ q ∧ q < z + 36 := fun q hq => by unfold sown at hq; omega
  have nw : ∀ q, sown (z + 1) q → ¬ (z + 1 + 1 ≤ q ∧ q < z + 1 + 1 + 28) := fun q hq => by unfold sown at hq; omega
  refine ⟨C.mk F (fun q hq => Or.inl (by have := nz q hq; omega)) ?_ ⟨x, n1, n2, n3, rf, S, ?_, hx, ?_, hn, hr⟩ (C.sp.fz F (by omega) (fun q g1 g2 g3 => by have := nz q g3; omega)) (C.rd.fz F hz (fun q g1 g2 g3 => by have := nz q g3; omega)) (C.re.fz F hz (fun q g1 g2 g3 => by have := nz q g3; omega)) ?_ id (by rw [e1]; exact Nat.le_trans C.p1 q1) (by rw [e2]; exact Nat.le_trans C.p2 q2), fun q g1 g2 => F.2 q (by omega) (fun g3 => by have := nz q g3; omega)⟩
  · obtain ⟨sd, e⟩ := C.ob
    exact ⟨sd, by rw [F.2 z (by omega) (fun g3 => by have := nz z g3; omega)]; exact e⟩
  · rw [t1]
    exact hv.fz F (by omega) (fun q g1 g2 g3 => nw q g3 ⟨g1, g2⟩)
  · intro i hi1
    obtain ⟨b, g1, g2⟩ := ring i hi1
    have := C.da.q1 _ b (rgi_lt _ _ _) g1
    exact ⟨b, g1, g2.fz F (by omega) (fun q k1 k2 k3 => by have := nz q k3; omega)⟩
  · obtain ⟨f, e⟩ := C.dr
    exact ⟨f, by rw [F.2 _ (by omega) (fun g3 => by have := nz _ g3; omega)]; exact e⟩
/-- a refusal counted -/
theorem k_ref {z : Nat} {H : jh} {b1 b2 : Nat} {Q Q2 : Nat → Option Nat} {I : Option Nat} {T TI : ta} {hi : Bool} {fl : Int32} {n : Nat} {tp : Nat → Int32} (C : CI z H b1 b2 Q Q2 I T hi TI fl n tp) (i : Nat) (hi3 : i < 3) : ∃ H', (∀ {β : Type} (K : jh → Option β), (gR H z 10 0 fun v4 => gR H v4 6 3 fun v5 => aI H v5 (nI i) fun v6 => sI H v5 (nI i) (v6 + 1) fun h7 => K h7) = K H') ∧ CI z H' b1 b2 Q Q2 I (tRef T i) hi TI fl n tp ∧ ∀ q, z + 100 ≤ q → q < z + 120 → H'.2.2 q = H.2.2 q := by
  obtain ⟨x, n1, n2, n3, rf, S, hv, hx, hring, hn, hr⟩ := C.sc
  refine ⟨jv_wr H (z + 1 + 34) (jI 3 (upd rf i (rf i + 1))), ?_, ?_⟩
  · intro β K
    rw [C.r0, C.s3, aI_of S.2.2.2.2.2.2 hi3 (by decide), sI_of S.2.2.2.2.2.2 hi3 (by decide)]
  · refine C.own (T' := tRef T i) (Fz_wr _ _ _ _ (by unfold sown; omega)) rfl rfl (S.w34 _) hx rfl hring ?_ (rfs_st i hr hi3) (Nat.le_refl _) (Nat.le_refl _)
    intro j hj
    show n1 j = rfs T.2.2.2.2 i 0 j ∧ n2 j = rfs T.2.2.2.2 i 1 j ∧ n3 j = rfs T.2.2.2.2 i 2 j
    rw [rfs_ne _ _ _ (by decide), rfs_ne _ _ _ (by decide), rfs_ne _ _ _ (by decide)]
    exact hn j hj
theorem k_forget {z : Nat} {H : jh} {b1 b2 : Nat} {Q Q2 : Nat → Option Nat} {I : Option Nat} {T TI : ta} {hi : Bool} {fl : Int32} {n : Nat} {tp : Nat → Int32} (C : CI z H b1 b2 Q Q2 I T hi TI fl n tp) : ∃ H', f_X12_forget z H = some ((), H') ∧ CI z H' b1 b2 Q Q2 I (tFgt T) hi TI fl n tp ∧ ∀ q, z + 100 ≤ q → q < z + 120 → H'.2.2 q = H.2.2 q := by
  obtain ⟨x, n1, n2, n3, rf, S, hv, hx, hring, hn, hr⟩ := C.sc
  refine ⟨_, ?_, C.own (T' := tFgt T) (Fz_wr _ _ _ _ (by unfold sown; omega)) rfl rfl (S.w30 (nI 0)) hx rfl hring (fun j hj => absurd hj (Nat.not_lt_zero j)) hr (Nat.le_refl _) (Nat.le_refl _)⟩
  unfold f_X12_forget
  rw [C.r0, C.s2, pV_of S.2.2.1 (Nat.le_of_ble_eq_true rfl)]
  rfl
theorem k_fault {z : Nat} {H : jh} {b1 b2 : Nat} {Q Q2 : Nat → Option Nat} {I : Option Nat} {T TI : ta} {hi : Bool} {fl : Int32} {n : Nat} {tp : Nat → Int32} (C : CI z H b1 b2 Q Q2 I T hi TI fl n tp) : f_X12_fault z H = some (fl, H) := by
  unfold f_X12_fault
  rw [C.i6]
theorem k_note {z : Nat} {H : jh} {b1 b2 : Nat} {Q Q2 : Nat → Option Nat} {I : Option Nat} {T TI : ta} {hi : Bool} {fl : Int32} {n : Nat} {tp : Nat → Int32} (C : CI z H b1 b2 Q Q2 I T hi TI fl n tp) (hT : TO T) (x y : Int32) (b : Bool) : ∃ H', f_X12_note z x y (bn b) H = some (aNote T x y, H') ∧ CI z H' b1 b2 Q Q2 I (tNote T x y b) hi TI fl n tp ∧ ∀ q, z + 100 ≤ q → q < z + 120 → H'.2.2 q = H.2.2 q := by
  have Wf := hT.1.1
  have hc0 := Wf.c0
  have h8 := hT.2.2.2.1
  obtain ⟨H1, kr, kc⟩ := k_ref C 2 (by decide)
  have no : ¬ cnN T x y = true → ∃ H', f_X12_note_b58 z H = some (aNote T x y, H') ∧ CI z H' b1 b2 Q Q2 I (tNote T x y b) hi TI fl n tp ∧ ∀ q, z + 100 ≤ q → q < z + 120 → H'.2.2 q = H.2.2 q := by
    intro hno
    unfold aNote tNote
    rw [if_neg hno, if_neg hno]
    exact ⟨H1, kr _, kc⟩
  have no0 : ¬ cnN T x y = true → ∃ H', f_X12_note_b36 z x y (bn b) 0 H = some (aNote T x y, H') ∧ CI z H' b1 b2 Q Q2 I (tNote T x y b) hi TI fl n tp ∧ ∀ q, z + 100 ≤ q → q < z + 120 → H'.2.2 q = H.2.2 q := by
    intro hno
    unfold f_X12_note_b36
    rw [if_pos rfl]
    exact no hno
  have eh : (gR H z 10 0 fun v1 => gR H v1 6 0 fun v2 => gR H v2 9 1 fun v3 => gR H v3 2 0 fun v4 => cV H v4 7 (f_X9_has v4 x H) fun v5 h6 => (if v5 = 0 then f_X12_note_b36 z x y (bn b) 0 h6 else if y < 1 then f_X12_note_b36 z x y (bn b) 0 h6 else if 20 < y then f_X12_note_b36 z x y (bn b) 0 h6 else f_X12_note_b36 z x y (bn b) 1 h6)) = (if isS T.1 10 x = true then (if y < 1 then f_X12_note_b36 z x y (bn b) 0 H else if 20 < y then f_X12_note_b36 z x y (bn b) 0 H else f_X12_note_b36 z x y (bn b) 1 H) else f_X12_note_b36 z x y (bn b) 0 H) := by
    obtain ⟨W, hW, CW⟩ := C.wld
    have e := c_isS0 (h := H) (w := z + 1 + 1) CW Wf x
    rw [hW.eq] at e
    rw [C.r0, C.s0, hw_gR0_1 hW, hw_gR9_0 hW, hw_cV10 hW, e, bd_some]
    cases isS T.1 10 x <;> rfl
  unfold f_X12_note
  rw [eh]
  by_cases hs : isS T.1 10 x = true
  · rw [if_pos hs]
    have ly := in_cl1 y
    by_cases hy : 1 ≤ cl y 21 ∧ cl y 21 < 21
    · rw [decide_eq_true hy] at ly
      obtain ⟨ly1, ly2⟩ := of_decide_eq_true ly
      rw [if_neg (show ¬ y < 1 from Int32.not_lt.mpr ly1), if_neg (show ¬ 20 < y from Int32.not_lt.mpr ly2)]
      unfold f_X12_note_b36
      rw [if_neg (show ¬ (1 : Int32) = 0 by decide), C.r0, C.s2, C.n3]
      by_cases c8 : T.2.2.2.1 = 8
      · rw [if_neg (show ¬ nI T.2.2.2.1 < 8 by rw [c8]; decide)]
        exact no (by unfold cnN; simp [c8])
      · have hc : cnN T x y = true := by unfold cnN; simp [c8, hs, hy]
        obtain ⟨x0, n1, n2, n3, rf, S, hv, hx, hring, hn, hr⟩ := C.sc
        have S1 := S.w31 (upd n1 T.2.2.2.1 x)
        have S2 := S1.w32 (upd n2 T.2.2.2.1 y)
        have S3 := S2.w33 (upd n3 T.2.2.2.1 (bn b))
        have S4 := S3.w30 (nI (T.2.2.2.1 + 1))
        have F : Fz H (jv_wr (jv_wr (jv_wr (jv_wr H (z + 1 + 31) (jI 8 (upd n1 T.2.2.2.1 x))) (z + 1 + 32) (jI 8 (upd n2 T.2.2.2.1 y))) (z + 1 + 33) (jI 8 (upd n3 T.2.2.2.1 (bn b)))) (z + 1 + 30) (jO 1 [.ref (z + 1 + 31), .ref (z + 1 + 32), .ref (z + 1 + 33), .int (nI (T.2.2.2.1 + 1))])) (fun q => sown (z + 1) q) := ((Fz_wr _ _ _ _ (by unfold sown; omega)).tr (Fz_wr _ _ _ _ (by unfold sown; omega))).tr ((Fz_wr _ _ _ _ (by unfold sown; omega)).tr (Fz_wr _ _ _ _ (by unfold sown; omega)))
        obtain ⟨C', ck⟩ := C.own (T' := (T.1, T.2.1, T.2.2.1, T.2.2.2.1 + 1, ntN T.2.2.2.2 T.2.2.2.1 x y b)) F rfl rfl S4 hx rfl hring (fun j hj => by
          have hj : j < T.2.2.2.1 + 1 := hj
          show _ = ntN T.2.2.2.2 T.2.2.2.1 x y b 0 j ∧ _ = ntN T.2.2.2.2 T.2.2.2.1 x y b 1 j ∧ _ = ntN T.2.2.2.2 T.2.2.2.1 x y b 2 j
          rw [ntN_0, ntN_1, ntN_2]
          unfold upd
          by_cases ej : j = T.2.2.2.1
          · simp only [if_pos ej]; exact ⟨trivial, trivial, trivial⟩
          · simp only [if_neg ej]; exact hn j (by omega)) (fun j hj => by
          show _ = ntN T.2.2.2.2 T.2.2.2.1 x y b 3 j
          rw [ntN_3]; exact hr j hj) (Nat.le_refl _) (Nat.le_refl _)
        unfold aNote tNote
        rw [if_pos hc, if_pos hc, if_pos (show nI T.2.2.2.1 < 8 by rw [show (8 : Int32) = nI 8 from rfl, al_lt (by omega) (by omega)]; omega)]
        refine ⟨_, ?_, C', ck⟩
        unfold f_X3_add
        rw [C.r0, C.s2, C.cvn, gI_of S.2.2.1 rfl, if_neg (by rw [show (8 : Int32) = nI 8 from rfl, al_le (by omega) (by omega)]; omega), gR_of S.2.2.1 rfl, gI_of S.2.2.1 rfl, sI_of S.2.2.2.1 (by omega) (by decide), gR_of S1.2.2.1 rfl, gI_of S1.2.2.1 rfl, sI_of S1.2.2.2.2.1 (by omega) (by decide), gR_of S2.2.2.1 rfl, gI_of S2.2.2.1 rfl, c_bit, bd_some, sI_of S2.2.2.2.2.2.1 (by omega) (by decide), gI_of S3.2.2.1 rfl, pV_of S3.2.2.1 (Nat.le_of_ble_eq_true rfl), show nI T.2.2.2.1 + (1 : Int32) = nI (T.2.2.2.1 + 1) from al_add _ 1, bd_some]
        rw [show ([Value.ref (z + 1 + 31), .ref (z + 1 + 32), .ref (z + 1 + 33), .int (nI T.2.2.2.1)] : List Value).set 3 (.int (nI (T.2.2.2.1 + 1))) = [.ref (z + 1 + 31), .ref (z + 1 + 32), .ref (z + 1 + 33), .int (nI (T.2.2.2.1 + 1))] from rfl, C'.r0, C'.s2, C'.n3]
    · rw [decide_eq_false hy] at ly
      have ly := of_decide_eq_false ly
      have hno : ¬ cnN T x y = true := by unfold cnN; simp [hy]
      by_cases g1 : y < 1
      · rw [if_pos g1]; exact no0 hno
      · rw [if_neg g1]
        by_cases g2 : 20 < y
        · rw [if_pos g2]; exact no0 hno
        · exact absurd ⟨Int32.not_lt.mp g1, Int32.not_lt.mp g2⟩ ly
  · rw [if_neg hs]
    exact no0 (by unfold cnN; simp [hs])
theorem k_undo {z : Nat} {H : jh} {b1 b2 : Nat} {Q Q2 : Nat → Option Nat} {I : Option Nat} {T TI : ta} {hi : Bool} {fl : Int32} {n : Nat} {tp : Nat → Int32} (C : CI z H b1 b2 Q Q2 I T hi TI fl n tp) (hT : TO T) : ∃ H', f_X12_undo z H = some (aUndo T, H') ∧ CI z H' b1 b2 Q Q2 I (tUndo T) hi TI fl n tp ∧ ∀ q, z + 100 ≤ q → q < z + 120 → H'.2.2 q = H.2.2 q := by
  have hz := C.hz
  have A := C.da
  obtain ⟨tO, tk, tP, tc, tn⟩ := hT
  unfold f_X12_undo f_X8_undoLast aUndo tUndo
  rw [C.r0, C.cvs, C.s5]
  by_cases h0 : T.2.1 = 0
  · rw [if_neg (show ¬ ¬ nI T.2.1 = 0 from not_not_intro (by rw [h0]; rfl)), if_pos h0, if_pos h0]
    exact ⟨H, rfl, C, fun _ _ _ => rfl⟩
  · rw [if_pos (show ¬ nI T.2.1 = 0 by rw [show (0 : Int32) = nI 0 from rfl, al_eq (by omega) (by omega)]; exact h0), if_neg h0, if_neg h0]
    obtain ⟨x, n1, n2, n3, rf, S, hv, hx, hring, hn, hr⟩ := C.sc
    obtain ⟨b, hb1, hb2⟩ := hring (T.2.1 - 1) (by omega)
    have hbq := A.q1 _ b (rgi_lt _ _ _) hb1
    generalize hy : rgi x T.2.1 (T.2.1 - 1) = y at hb1
    have hy' : y = if x = 0 then 40 else x - 1 := by
      rw [← hy]; unfold rgi
      split <;> omega
    have er : f_X8_rowBefore (nI x) H = some (nI y, H) := by
      unfold f_X8_rowBefore
      by_cases e : x = 0
      · rw [if_pos (show nI x ≤ 0 by rw [e]; decide), hy', if_pos e]; rfl
      · rw [if_neg (show ¬ nI x ≤ 0 by rw [show (0 : Int32) = nI 0 from rfl, al_le (by omega) (by omega)]; omega), hy', if_neg e, show nI x - (1 : Int32) = nI (x - 1) from al_sub (b := 1) (by omega)]
    rw [gI_of S.1 rfl, er, bd_some, pV_of S.1 (Nat.le_of_ble_eq_true rfl)]
    have S1 := S.w0 (nI y) (nI T.2.1)
    have e1 : jv_wr H (z + 1) (jO 6 ([Value.ref (z + 1 + 1), .ref (z + 1 + 29), .ref (z + 1 + 30), .ref (z + 1 + 34), .int (nI x), .int (nI T.2.1)].set 4 (.int (nI y)))) = jv_wr H (z + 1) (jO 6 [.ref (z + 1 + 1), .ref (z + 1 + 29), .ref (z + 1 + 30), .ref (z + 1 + 34), .int (nI y), .int (nI T.2.1)]) := rfl
    rw [e1]
    generalize hH1 : jv_wr H (z + 1) (jO 6 [.ref (z + 1 + 1), .ref (z + 1 + 29), .ref (z + 1 + 30), .ref (z + 1 + 34), .int (nI y), .int (nI T.2.1)]) = H1 at S1
    have F1 : Fz H H1 (fun q => q = z + 1) := by rw [← hH1]; exact Fz_wr _ _ _ _ rfl
    have h11 : H1.1 = H.1 := by rw [← hH1]; rfl
    have h12 : H1.2.1 = H.2.1 := by rw [← hH1]; rfl
    have hv1 : HV H1 (z + 1 + 1) T.1 := hv.fz F1 (by omega) (fun q g1 g2 => by omega)
    have hb3 : HV H1 b (T.2.2.1 (T.2.1 - 1)) := hb2.fz F1 (by omega) (fun q g1 g2 => by omega)
    rw [gR_of S1.1 rfl, gI_of S1.1 rfl, aQ_of S1.2.1 (show y < 41 by rw [hy']; split <;> omega) (by decide), hb1, nq_some, gR_of S1.1 rfl]
    obtain ⟨H2, e2, hv2, F2⟩ := Hv_copy hv1.b hb3 (tP (T.2.1 - 1) (by omega)).1.bd (by omega)
    obtain ⟨fs, w1⟩ := hv1.b.at0
    rw [cV_of w1, e2, bd_some]
    have S2 : StC H2 (z + 1) Q (nI y) (nI T.2.1) (nI T.2.2.2.1) n1 n2 n3 rf := S1.fz F2.z (by omega) (fun q hq => by unfold sown at hq; omega)
    unfold f_X8_undoLast_b42
    have S3 := S2.w0 (nI y) (nI (T.2.1 - 1))
    rw [gI_of S2.1 rfl, pV_of S2.1 (Nat.le_of_ble_eq_true rfl), show nI T.2.1 - (1 : Int32) = nI (T.2.1 - 1) from al_sub (b := 1) (by omega)]
    have e3 : jv_wr H2 (z + 1) (jO 6 ([Value.ref (z + 1 + 1), .ref (z + 1 + 29), .ref (z + 1 + 30), .ref (z + 1 + 34), .int (nI y), .int (nI T.2.1)].set 5 (.int (nI (T.2.1 - 1))))) = jv_wr H2 (z + 1) (jO 6 [.ref (z + 1 + 1), .ref (z + 1 + 29), .ref (z + 1 + 30), .ref (z + 1 + 34), .int (nI y), .int (nI (T.2.1 - 1))]) := rfl
    rw [e3]
    generalize hH3 : jv_wr H2 (z + 1) (jO 6 [.ref (z + 1 + 1), .ref (z + 1 + 29), .ref (z + 1 + 30), .ref (z + 1 + 34), .int (nI y), .int (nI (T.2.1 - 1))]) = H3 at S3
    have F3 : Fz H2 H3 (fun q => q = z + 1) := by rw [← hH3]; exact Fz_wr _ _ _ _ rfl
    have h31 : H3.1 = H.1 := by rw [← hH3]; show H2.1 = _; rw [F2.1, h11]
    have h32 : H3.2.1 = H.2.1 := by rw [← hH3]; show H2.2.1 = _; rw [F2.2.1, h12]
    have F13 : Fz H H3 (fun q => z + 1 ≤ q ∧ q < z + 30) := (F1.mono (fun q hq => by omega)).tr ((F2.z.mono (fun q hq => by omega)).tr (F3.mono (fun q hq => by omega)))
    rw [gI_of S3.1 rfl, bd_some]
    refine ⟨H3, rfl, C.mk F13 (fun q hq => by omega) ?_ ⟨y, n1, n2, n3, rf, S3, ?_, by rw [hy']; split <;> omega, ?_, hn, hr⟩ (C.sp.fz F13 (by omega) (fun q g1 g2 => by omega)) (C.rd.fz F13 hz (fun q g1 g2 => by omega)) (C.re.fz F13 hz (fun q g1 g2 => by omega)) ?_ id (by rw [h31]; exact C.p1) (by rw [h32]; exact C.p2), fun q g1 g2 => F13.2 q (by omega) (by omega)⟩
    · obtain ⟨sd, e⟩ := C.ob
      exact ⟨sd, by rw [F13.2 z (by omega) (by omega)]; exact e⟩
    · exact hv2.fz F3 (by rw [F2.1]; omega) (fun q g1 g2 => by omega)
    · intro i hi1
      have hi1 : i < T.2.1 - 1 := hi1
      obtain ⟨c, c1, c2⟩ := hring i (by omega)
      have heq : rgi y (T.2.1 - 1) i = rgi x T.2.1 i := by
        rw [hy']; unfold rgi
        split <;> omega
      have := A.q1 _ c (rgi_lt _ _ _) c1
      exact ⟨c, by show Q (rgi y (T.2.1 - 1) i) = some c; rw [heq]; exact c1, c2.fz F13 (by omega) (fun q g1 g2 => by omega)⟩
    · obtain ⟨f, e⟩ := C.dr
      exact ⟨f, by rw [F13.2 _ (by omega) (by omega)]; exact e⟩
