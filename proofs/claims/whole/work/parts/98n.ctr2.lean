/-! the class: States copied; images -/
def inW (Q : Nat → Option Nat) (q : Nat) : Prop := ∃ j b, j < 41 ∧ Q j = some b ∧ b ≤ q ∧ q < b + 28
theorem k_cps_l {z a c x k : Nat} {I : Option Nat} {Qc : Nat → Option Nat} {P : Nat → vw} (offa offc : Nat) (ho : (offa = 0 ∧ offc = 41) ∨ (offa = 41 ∧ offc = 0)) (hx : x < 41) (hk : k ≤ 40) (hac : a + 35 ≤ c ∨ c + 35 ≤ a) (hblk : ∀ (t : Nat) (D : Nat → Option Nat), DA z t D I → ∀ k b, k < 82 → D k = some b → (a + 35 ≤ b ∨ b + 28 ≤ a) ∧ (c + 35 ≤ b ∨ b + 28 ≤ c)) (hP : ∀ i, i < k → OK (P i)) (L : Nat → Nat → Nat → Int32 → Int32 → jh → Option (Unit × jh)) (hL : ∀ f, L (f + 1) = f_X8_copy_h56 (fun h27 => some ((), h27)) (L f)) :
    ∀ r i f (H : jh) (Qa D : Nat → Option Nat) (cc cd : Int32) (n1 n2 n3 rf m1 m2 m3 rg : Nat → Int32), i + r = k → r + 1 ≤ f → StC H a Qa (nI x) (nI k) cc n1 n2 n3 rf → StC H c Qc (nI x) (nI k) cd m1 m2 m3 rg → z + 120 ≤ H.1 → a + 35 ≤ H.1 → c + 35 ≤ H.1 → DA z H.1 D I → (∀ j, j < 41 → D (offa + j) = Qa j) → (∀ j, j < 41 → D (offc + j) = Qc j) → (∀ k b, k < 82 → D k = some b → HB H b) → (∀ i', k - i ≤ i' → i' < k → ∃ b, Qa (rgi x k i') = some b ∧ HV H b (P i')) → (∀ i', i' < k → ∃ b, Qc (rgi x k i') = some b ∧ HV H b (P i')) →
    ∃ H' Qa' D', L f a c (nI ((x + 41 - i) % 41)) (nI i) H = some ((), H') ∧ StC H' a Qa' (nI x) (nI k) cc n1 n2 n3 rf ∧ StC H' c Qc (nI x) (nI k) cd m1 m2 m3 rg ∧ DA z H'.1 D' I ∧ (∀ j, j < 41 → D' (offa + j) = Qa' j) ∧ (∀ j, j < 41 → D' (offc + j) = Qc j) ∧ (∀ k b, k < 82 → D' k = some b → HB H' b) ∧ (∀ i', i' < k → ∃ b, Qa' (rgi x k i') = some b ∧ HV H' b (P i')) ∧ (∀ i', i' < k → ∃ b, Qc (rgi x k i') = some b ∧ HV H' b (P i')) ∧ Fz H H' (fun q => q = a + 29 ∨ inW Qa' q) ∧ (∀ j b, Qa j = some b → Qa' j = some b) ∧ H'.1 + 28 * nfr D' = H.1 + 28 * nfr D ∧ H'.2.1 + 465 * nfr D' = H.2.1 + 465 * nfr D := by
  intro r
  induction r with
  | zero =>
    intro i f H Qa D cc cd n1 n2 n3 rf m1 m2 m3 rg hi hf S Sc hz ha hc A hDa hDc hB hdone hsrc
    obtain ⟨f, rfl⟩ : ∃ g, f = g + 1 := ⟨f - 1, by omega⟩
    refine ⟨H, Qa, D, ?_, S, Sc, A, hDa, hDc, hB, fun i' h1 => hdone i' (by omega) h1, hsrc, Fz_id _ _, fun _ _ h => h, rfl, rfl⟩
    rw [hL]
    unfold f_X8_copy_h56
    rw [gI_of S.1 rfl, if_pos (by rw [al_le (by omega) (by omega)]; omega)]
  | succ r ih =>
    intro i f H Qa D cc cd n1 n2 n3 rf m1 m2 m3 rg hi hf S Sc hz ha hc A hDa hDc hB hdone hsrc
    obtain ⟨f, rfl⟩ : ∃ g, f = g + 1 := ⟨f - 1, by omega⟩
    -- the row ahead
    generalize hy : (x + 41 - (i + 1)) % 41 = y
    have hy1 : y < 41 := by omega
    have hyr : y = rgi x k (k - 1 - i) := by rw [← hy]; unfold rgi; rw [show k - (k - 1 - i) = i + 1 by omega]
    have er : f_X8_rowBefore (nI ((x + 41 - i) % 41)) H = some (nI y, H) := by
      unfold f_X8_rowBefore
      by_cases e : (x + 41 - i) % 41 = 0
      · rw [if_pos (show nI ((x + 41 - i) % 41) ≤ 0 by rw [e]; decide), show y = 40 by omega]; rfl
      · rw [if_neg (show ¬ nI ((x + 41 - i) % 41) ≤ 0 by rw [show (0 : Int32) = nI 0 from rfl, al_le (by omega) (by omega)]; omega), show nI ((x + 41 - i) % 41) - (1 : Int32) = nI ((x + 41 - i) % 41 - 1) from al_sub (b := 1) (by omega), show (x + 41 - i) % 41 - 1 = y by omega]
    obtain ⟨s0, s1, s2⟩ := hsrc (k - 1 - i) (by omega)
    rw [← hyr] at s1
    have ds : D (offc + y) = some s0 := by rw [hDc y hy1]; exact s1
    have As := A.1 (offc + y) s0 (by omega) ds
    have hbs := hblk H.1 D A (offc + y) s0 (by omega) ds
    rw [hL]
    unfold f_X8_copy_h56
    rw [gI_of S.1 rfl, if_neg (by rw [al_le (by omega) (by omega)]; omega), if_neg (by rw [show (41 : Int32) = nI 41 from rfl, al_le (by omega) (by omega)]; omega), er, bd_some, gR_of Sc.1 rfl, aQ_of Sc.2.1 hy1 (by decide), s1, nq_some, cV_of S.1]
    obtain ⟨b, H1, Q1, D1, e1, S1, hB1, q1, q2, q3, F1, A1, d1, d2, p1, p2, p3⟩ := k_rowAt (z := z) (D := D) (I := I) S ha hz A (fun k b hk hb => hB (offa + k) b (by omega) (by rw [hDa k hk]; exact hb)) offa (by omega) hDa y hy1
    rw [e1, bd_some, nn_some]
    have Ab := A1.1 (offa + y) b (by omega) d2
    have hbb := hblk H1.1 D1 A1 (offa + y) b (by omega) d2
    have ds1 : D1 (offc + y) = some s0 := by rw [d1 _ (by omega)]; exact ds
    have sep := A1.2.1 (offa + y) (offc + y) b s0 (by omega) (by omega) (by omega) d2 ds1
    have hs1 : HV H1 s0 (P (k - 1 - i)) := s2.fz F1 (by omega) (fun q g1 g2 => by omega)
    obtain ⟨H2, e2, hv2, F2⟩ := Hv_copy hB1 hs1 (hP (k - 1 - i) (by omega)).1.bd (by omega)
    obtain ⟨fs, w1⟩ := hB1.at0
    rw [cV_of w1, e2, bd_some, show nI i + 1 = nI (i + 1) from al_add i 1, ← hy]
    have hH1 := F1.1
    have S2 : StC H2 a Q1 (nI x) (nI k) cc n1 n2 n3 rf := S1.fz F2.z (by omega) (fun q hq => by unfold sown at hq; omega)
    have Sc1 : StC H1 c Qc (nI x) (nI k) cd m1 m2 m3 rg := Sc.fz F1 (by omega) (fun q hq => by unfold sown at hq; omega)
    have Sc2 : StC H2 c Qc (nI x) (nI k) cd m1 m2 m3 rg := Sc1.fz F2.z (by omega) (fun q hq => by unfold sown at hq; omega)
    have F12 : Fz H H2 (fun q => q = a + 29 ∨ (b ≤ q ∧ q < b + 28)) := (F1.mono (fun q hq => Or.inl hq)).tr (F2.z.mono (fun q hq => Or.inr hq))
    -- what other Worlds are
    have oth : ∀ j e u, j < 82 → j ≠ offa + y → D1 j = some e → HV H e u → HV H2 e u := by
      intro j e u hj hne hd hu
      have hd0 : D j = some e := by rw [← d1 j hne]; exact hd
      have g1 := A.1 j e hj hd0
      have g2 := A1.2.1 j (offa + y) e b hj (by omega) hne hd d2
      have g3 := hblk H1.1 D1 A1 j e hj hd
      exact hu.fz F12 (by omega) (fun q k1 k2 k3 => by omega)
    obtain ⟨H', Qa', D', g1, g2, g3, g4, g5, g6, g7, g8, g9, g10, g11, g12, g13⟩ := ih (i + 1) f H2 Q1 D1 cc cd n1 n2 n3 rf m1 m2 m3 rg (by omega) (by omega) S2 Sc2 (by rw [F2.1]; omega) (by rw [F2.1]; omega) (by rw [F2.1]; omega) (by rw [F2.1]; exact A1) (fun j hj => by
        by_cases e : j = y
        · rw [e, d2, q1]
        · rw [d1 _ (by omega), hDa j hj, q2 j e]) (fun j hj => by rw [d1 _ (by omega)]; exact hDc j hj) (fun j e hj hd => by
        by_cases ej : j = offa + y
        · rw [ej, d2] at hd
          cases hd
          exact hv2.b
        · have hd0 : D j = some e := by rw [← d1 j ej]; exact hd
          have k1 := A.1 j e hj hd0
          have k2 := A1.2.1 j (offa + y) e b hj (by omega) ej hd d2
          have k3 := hblk H1.1 D1 A1 j e hj hd
          exact (hB j e hj hd0).fz F12 (by omega) (fun q k1 k2 k3 => by omega)) (fun i' h1 h2 => by
        by_cases ei : i' = k - 1 - i
        · rw [ei, ← hyr]
          exact ⟨b, q1, hv2⟩
        · obtain ⟨e, u1, u2⟩ := hdone i' (by omega) h2
          have hne : rgi x k i' ≠ y := by rw [hyr]; unfold rgi; omega
          have hd1 : D1 (offa + rgi x k i') = some e := by rw [d1 _ (by omega), hDa _ (rgi_lt _ _ _)]; exact u1
          exact ⟨e, by rw [q2 _ hne]; exact u1, oth (offa + rgi x k i') e _ (by have := rgi_lt x k i'; omega) (by omega) hd1 u2⟩) (fun i' h1 => by
        obtain ⟨e, u1, u2⟩ := hsrc i' h1
        have hl := rgi_lt x k i'
        have hd1 : D1 (offc + rgi x k i') = some e := by rw [d1 _ (by omega), hDc _ hl]; exact u1
        exact ⟨e, u1, oth (offc + rgi x k i') e _ (by omega) (by omega) hd1 u2⟩)
    have hsub : ∀ j b', Qa j = some b' → Q1 j = some b' := by
      intro j b' hj
      by_cases e : j = y
      · rw [e] at hj ⊢
        rw [q3 b' hj]; exact q1
      · rw [q2 j e]; exact hj
    refine ⟨H', Qa', D', g1, g2, g3, g4, g5, g6, g7, g8, g9, ?_, fun j b' hj => g11 j b' (hsub j b' hj), ?_, ?_⟩
    · exact (F12.mono (fun q hq => hq.imp id (fun hq => ⟨y, b, hy1, g11 y b q1, hq⟩))).tr g10
    · rw [g12, F2.1]; exact p1
    · rw [g13, F2.2.1]; exact p2
theorem k_copyS {z : Nat} {H : jh} {a c : Nat} {Qa Qc D : Nat → Option Nat} {I : Option Nat} {T : ta} (SA : SX H a Qa) (SC0 : SC H c Qc T) (hT : TO T) (hz : z + 120 ≤ H.1) (A : DA z H.1 D I) (offa offc : Nat) (ho : (offa = 0 ∧ offc = 41) ∨ (offa = 41 ∧ offc = 0)) (hDa : ∀ j, j < 41 → D (offa + j) = Qa j) (hDc : ∀ j, j < 41 → D (offc + j) = Qc j) (hB : ∀ k b, k < 82 → D k = some b → HB H b) (hac : a + 35 ≤ c ∨ c + 35 ≤ a) (ha : a + 35 ≤ H.1) (hc : c + 35 ≤ H.1) (hblk : ∀ (t : Nat) (D : Nat → Option Nat), DA z t D I → ∀ k b, k < 82 → D k = some b → (a + 35 ≤ b ∨ b + 28 ≤ a) ∧ (c + 35 ≤ b ∨ b + 28 ≤ c)) :
    ∃ H' Qa' D', f_X8_copy a c H = some ((), H') ∧ SC H' a Qa' T ∧ SC H' c Qc T ∧ DA z H'.1 D' I ∧ (∀ j, j < 41 → D' (offa + j) = Qa' j) ∧ (∀ j, j < 41 → D' (offc + j) = Qc j) ∧ (∀ k b, k < 82 → D' k = some b → HB H' b) ∧ Fz H H' (fun q => (a ≤ q ∧ q < a + 35) ∨ inW Qa' q) ∧ H'.1 + 28 * nfr D' = H.1 + 28 * nfr D ∧ H'.2.1 + 465 * nfr D' = H.2.1 + 465 * nfr D := by
  obtain ⟨tO, tk, tP, tc, tn⟩ := hT
  obtain ⟨xa, ka, ca, n1, n2, n3, rf, Sa, hwa⟩ := SA
  obtain ⟨x, m1, m2, m3, rg, Sc, hwc, hx, hring, hnote, hst⟩ := SC0
  obtain ⟨f0, hf0⟩ := jfu_s
  unfold f_X8_copy
  -- the World
  obtain ⟨H1, e1, hv1, F1⟩ := Hv_copy hwa hwc tO.1.bd (by omega)
  obtain ⟨fs, w1⟩ := hwa.at0
  rw [gR_of Sa.1 rfl, gR_of Sc.1 rfl, cV_of w1, e1, bd_some]
  have Sa1 : StC H1 a Qa xa ka ca n1 n2 n3 rf := Sa.fz F1.z ha (fun q hq => by unfold sown at hq; omega)
  have Sc1 : StC H1 c Qc (nI x) (nI T.2.1) (nI T.2.2.2.1) m1 m2 m3 rg := Sc.fz F1.z hc (fun q hq => by unfold sown at hq; omega)
  -- the notes
  have cp : ∀ (H : jh) (Q : Nat → Option Nat) (x k c' : Int32) (u1 u2 u3 u4 : Nat → Int32) (d : Nat) (cell : jc), StC H c Q x k c' u1 u2 u3 u4 → (a ≤ d ∧ d < a + 35) → StC (jv_wr H d cell) c Q x k c' u1 u2 u3 u4 := by
    intro H Q x k c' u1 u2 u3 u4 d cell S hd
    refine ⟨?_, ?_, ?_, ?_, ?_, ?_, ?_⟩
    · rw [wr_ne _ _ _ _ (by omega)]; exact S.1
    · rw [wr_ne _ _ _ _ (by omega)]; exact S.2.1
    · rw [wr_ne _ _ _ _ (by omega)]; exact S.2.2.1
    · rw [wr_ne _ _ _ _ (by omega)]; exact S.2.2.2.1
    · rw [wr_ne _ _ _ _ (by omega)]; exact S.2.2.2.2.1
    · rw [wr_ne _ _ _ _ (by omega)]; exact S.2.2.2.2.2.1
    · rw [wr_ne _ _ _ _ (by omega)]; exact S.2.2.2.2.2.2
  rw [gR_of Sa1.1 rfl, gR_of Sc1.1 rfl, cV_of Sa1.2.2.1]
  unfold f_X3_copy
  have Sa2 := Sa1.w31 (mix 8 m1 n1)
  have Sc2 := cp _ _ _ _ _ _ _ _ _ (a + 31) (jI 8 (mix 8 m1 n1)) Sc1 (by omega)
  rw [gR_of Sc1.2.2.1 rfl, gR_of Sa1.2.2.1 rfl, cprow Sc1.2.2.2.1 Sa1.2.2.2.1 (by decide), bd_some]
  have Sa3 := Sa2.w32 (mix 8 m2 n2)
  have Sc3 := cp _ _ _ _ _ _ _ _ _ (a + 32) (jI 8 (mix 8 m2 n2)) Sc2 (by omega)
  rw [gR_of Sc2.2.2.1 rfl, gR_of Sa2.2.2.1 rfl, cprow Sc2.2.2.2.2.1 Sa2.2.2.2.2.1 (by decide), bd_some]
  have Sa4 := Sa3.w33 (mix 8 m3 n3)
  have Sc4 := cp _ _ _ _ _ _ _ _ _ (a + 33) (jI 8 (mix 8 m3 n3)) Sc3 (by omega)
  rw [gR_of Sc3.2.2.1 rfl, gR_of Sa3.2.2.1 rfl, cprow Sc3.2.2.2.2.2.1 Sa3.2.2.2.2.2.1 (by decide), bd_some]
  have Sa5 := Sa4.w30 (nI T.2.2.2.1)
  have Sc5 := cp _ _ _ _ _ _ _ _ _ (a + 30) (jO 1 [.ref (a + 31), .ref (a + 32), .ref (a + 33), .int (nI T.2.2.2.1)]) Sc4 (by omega)
  rw [gI_of Sc4.2.2.1 rfl, pV_of Sa4.2.2.1 (Nat.le_of_ble_eq_true rfl), show ([Value.ref (a + 31), .ref (a + 32), .ref (a + 33), .int ca] : List Value).set 3 (.int (nI T.2.2.2.1)) = [.ref (a + 31), .ref (a + 32), .ref (a + 33), .int (nI T.2.2.2.1)] from rfl, bd_some]
  -- STATUS, next, kept
  have Sa6 := Sa5.w34 (mix 3 rg rf)
  have Sc6 := cp _ _ _ _ _ _ _ _ _ (a + 34) (jI 3 (mix 3 rg rf)) Sc5 (by omega)
  rw [gR_of Sc5.1 rfl, gR_of Sa5.1 rfl, cprow Sc5.2.2.2.2.2.2 Sa5.2.2.2.2.2.2 (by decide), bd_some]
  have Sa7 := Sa6.w0 (nI x) ka
  have Sc7 := cp _ _ _ _ _ _ _ _ _ a (jO 6 [.ref (a + 1), .ref (a + 29), .ref (a + 30), .ref (a + 34), .int (nI x), .int ka]) Sc6 (by omega)
  rw [gI_of Sc6.1 rfl, pV_of Sa6.1 (Nat.le_of_ble_eq_true rfl), show ([Value.ref (a + 1), .ref (a + 29), .ref (a + 30), .ref (a + 34), .int xa, .int ka] : List Value).set 4 (.int (nI x)) = [.ref (a + 1), .ref (a + 29), .ref (a + 30), .ref (a + 34), .int (nI x), .int ka] from rfl]
  have Sa8 := Sa7.w0 (nI x) (nI T.2.1)
  have Sc8 := cp _ _ _ _ _ _ _ _ _ a (jO 6 [.ref (a + 1), .ref (a + 29), .ref (a + 30), .ref (a + 34), .int (nI x), .int (nI T.2.1)]) Sc7 (by omega)
  rw [gI_of Sc7.1 rfl, pV_of Sa7.1 (Nat.le_of_ble_eq_true rfl), show ([Value.ref (a + 1), .ref (a + 29), .ref (a + 30), .ref (a + 34), .int (nI x), .int ka] : List Value).set 5 (.int (nI T.2.1)) = [.ref (a + 1), .ref (a + 29), .ref (a + 30), .ref (a + 34), .int (nI x), .int (nI T.2.1)] from rfl]
  have FF : Fz H1 (jv_wr (jv_wr (jv_wr (jv_wr (jv_wr (jv_wr (jv_wr H1 (a + 31) (jI 8 (mix 8 m1 n1))) (a + 32) (jI 8 (mix 8 m2 n2))) (a + 33) (jI 8 (mix 8 m3 n3))) (a + 30) (jO 1 [.ref (a + 31), .ref (a + 32), .ref (a + 33), .int (nI T.2.2.2.1)])) (a + 34) (jI 3 (mix 3 rg rf))) a (jO 6 [.ref (a + 1), .ref (a + 29), .ref (a + 30), .ref (a + 34), .int (nI x), .int ka])) a (jO 6 [.ref (a + 1), .ref (a + 29), .ref (a + 30), .ref (a + 34), .int (nI x), .int (nI T.2.1)])) (fun q => sown a q) := ((Fz_wr _ _ _ _ (by unfold sown; omega)).tr (Fz_wr _ _ _ _ (by unfold sown; omega))).tr ((((Fz_wr _ _ _ _ (by unfold sown; omega)).tr (Fz_wr _ _ _ _ (by unfold sown; omega))).tr ((Fz_wr _ _ _ _ (by unfold sown; omega)).tr (Fz_wr _ _ _ _ (by unfold sown; omega)))).tr (Fz_wr _ _ _ _ (by unfold sown; omega)))
  rw [gI_of Sa8.1 rfl]
  generalize hH2 : jv_wr (jv_wr (jv_wr (jv_wr (jv_wr (jv_wr (jv_wr H1 (a + 31) (jI 8 (mix 8 m1 n1))) (a + 32) (jI 8 (mix 8 m2 n2))) (a + 33) (jI 8 (mix 8 m3 n3))) (a + 30) (jO 1 [.ref (a + 31), .ref (a + 32), .ref (a + 33), .int (nI T.2.2.2.1)])) (a + 34) (jI 3 (mix 3 rg rf))) a (jO 6 [.ref (a + 1), .ref (a + 29), .ref (a + 30), .ref (a + 34), .int (nI x), .int ka])) a (jO 6 [.ref (a + 1), .ref (a + 29), .ref (a + 30), .ref (a + 34), .int (nI x), .int (nI T.2.1)]) = H2 at FF Sa8 Sc8
  have h21 : H2.1 = H.1 := by rw [← hH2]; show H1.1 = _; exact F1.1
  have h22 : H2.2.1 = H.2.1 := by rw [← hH2]; show H1.2.1 = _; exact F1.2.1
  have F02 : Fz H H2 (fun q => a ≤ q ∧ q < a + 29 ∨ sown a q) := (F1.z.mono (fun q hq => Or.inl (by omega))).tr (FF.mono (fun q hq => Or.inr hq))
  have nz : ∀ q, (a ≤ q ∧ q < a + 29 ∨ sown a q) → a ≤ q ∧ q < a + 35 := fun q hq => by unfold sown at hq; omega
  have keep : ∀ k b u, k < 82 → D k = some b → HV H b u → HV H2 b u := fun k b u hk hd hu => by
    have g1 := A.1 k b hk hd
    have g2 := hblk H.1 D A k b hk hd
    exact hu.fz F02 (by omega) (fun q k1 k2 k3 => by have := nz q k3; omega)
  obtain ⟨H', Qa', D', g1, g2, g3, g4, g5, g6, g7, g8, g9, g10, g11, g12, g13⟩ := k_cps_l (z := z) (I := I) (P := T.2.2.1) offa offc ho hx tk hac hblk tP (jlp4 (f_X8_copy_h56 (fun h27 => some ((), h27)))) (fun _ => rfl) T.2.1 0 jfu H2 Qa D _ _ _ _ _ _ _ _ _ _ (by omega) (by omega) Sa8 Sc8 (by omega) (by omega) (by omega) (by rw [h21]; exact A) hDa hDc (fun k b hk hd => by
      have k1 := A.1 k b hk hd
      have k2 := hblk H.1 D A k b hk hd
      exact (hB k b hk hd).fz F02 (by omega) (fun q k1 k2 k3 => by have := nz q k3; omega)) (fun i' h1 h2 => by omega) (fun i' h1 => by
      obtain ⟨b, u1, u2⟩ := hring i' h1
      have hl := rgi_lt x T.2.1 i'
      exact ⟨b, u1, keep (offc + rgi x T.2.1 i') b _ (by omega) (by rw [hDc _ hl]; exact u1) u2⟩)
  have hxx : (x + 41 - 0) % 41 = x := by omega
  rw [hxx] at g1
  have hH := g10.1
  have hv2 : HV H2 (a + 1) T.1 := hv1.fz FF (by rw [F1.1]; omega) (fun q k1 k2 k3 => by unfold sown at k3; omega)
  have hw2 : HV H2 (c + 1) T.1 := hwc.fz F02 (by omega) (fun q k1 k2 k3 => by have := nz q k3; omega)
  have na : ∀ q, inW Qa' q → ¬ (a ≤ q ∧ q < a + 35) ∧ ¬ (c ≤ q ∧ q < c + 35) := by
    rintro q ⟨j, b, k1, k2, k3, k4⟩
    have := hblk H'.1 D' g4 (offa + j) b (by omega) (by rw [g5 j k1]; exact k2)
    omega
  refine ⟨H', Qa', D', g1, ⟨x, _, _, _, _, g2, hv2.fz g10 (by omega) (fun q k1 k2 k3 => ?_), hx, g8, fun j hj => ?_, fun j hj => ?_⟩, ⟨x, _, _, _, _, g3, hw2.fz g10 (by omega) (fun q k1 k2 k3 => ?_), hx, g9, hnote, hst⟩, g4, g5, g6, g7, ?_, ?_, ?_⟩
  · rcases k3 with k3 | k3
    · omega
    · exact (na q k3).1 (by omega)
  · rw [mix_at (by omega), mix_at (by omega), mix_at (by omega)]; exact hnote j hj
  · rw [mix_at hj]; exact hst j hj
  · rcases k3 with k3 | k3
    · omega
    · exact (na q k3).2 (by omega)
  · exact (F02.mono (fun q hq => Or.inl (nz q hq))).tr (g10.mono (fun q hq => hq.imp (fun e => by omega) id))
  · rw [g12, h21]
  · rw [g13, h22]
