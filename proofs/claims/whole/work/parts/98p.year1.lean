/-! years: what is drawn; the reference -/
theorem tx_0 : jv_tx.getD 0 [] = [102, 111, 114, 107] := by decide +kernel
theorem tx_1 : jv_tx.getD 1 [] = [117, 115, 101, 114] := by decide +kernel
theorem tx_2 : jv_tx.getD 2 [] = [110, 117, 109, 98, 101, 114, 115] := by decide +kernel
theorem tx_3 : jv_tx.getD 3 [] = [109, 111, 117, 110, 116, 115] := by decide +kernel
theorem tx_4 : jv_tx.getD 4 [] = [109, 97, 112] := by decide +kernel
theorem tx_5 : jv_tx.getD 5 [] = [98, 101, 99, 111, 109, 101] := by decide +kernel
theorem tx_6 : jv_tx.getD 6 [] = [109, 111, 117, 110, 116] := by decide +kernel
theorem tx_7 : jv_tx.getD 7 [] = [101, 110, 116, 101, 114] := by decide +kernel
theorem tx_8 : jv_tx.getD 8 [] = [101, 110, 100] := by decide +kernel
theorem tx_9 : jv_tx.getD 9 [] = [107, 105, 108, 108] := by decide +kernel
theorem tx_10 : jv_tx.getD 10 [] = [115, 104, 97, 114, 101] := by decide +kernel
theorem tx_11 : jv_tx.getD 11 [] = [112] := by decide +kernel
theorem tx_12 : jv_tx.getD 12 [] = [112, 115, 110, 110, 109] := by decide +kernel
theorem tx_13 : jv_tx.getD 13 [] = [112, 110] := by decide +kernel
theorem tx_14 : jv_tx.getD 14 [] = [112, 115, 110] := by decide +kernel
theorem tx_15 : jv_tx.getD 15 [] = [112, 112, 107] := by decide +kernel
theorem tx_16 : jv_tx.getD 16 [] = [112, 112] := by decide +kernel
def nx (sd : Int32) : Int32 := sd * 1103515245 + 12345
theorem dn_ex (x : Int32) : ∃ j, j < 32768 ∧ (x >>> (nI 16 &&& nI 31)) &&& nI 32767 = nI j := pk_andE (x >>> (nI 16 &&& nI 31)) (m := nI 32767) 15 (by decide)
noncomputable def dn (x : Int32) : Nat := Classical.choose (dn_ex x)
theorem dn_s (x : Int32) : (x >>> (nI 16 &&& nI 31)) &&& nI 32767 = nI (dn x) ∧ dn x < 32768 := ⟨(Classical.choose_spec (dn_ex x)).2, (Classical.choose_spec (dn_ex x)).1⟩
theorem hb_15 (j : Nat) (hj : j < 32) : hb (nI 32767) j = decide (j < 15) := by
  have : ∀ j : Fin 32, hb (nI 32767) j.1 = decide (j.1 < 15) := by decide
  exact this ⟨j, hj⟩
theorem hb_sar' (x : Int32) (i j : Nat) (hi : i < 32) (hj : i + j < 32) : hb (x >>> (nI i &&& nI 31)) j = hb x (i + j) := by
  have e : ∀ i : Fin 32, ((nI i.1 &&& nI 31).toBitVec.smod 32).toNat = i.1 := by decide
  unfold hb
  rw [Int32.toBitVec_shiftRight, BitVec.sshiftRight', e ⟨i, hi⟩, BitVec.getLsbD_sshiftRight]
  have h1 : ¬ 32 ≤ j := by omega
  simp [h1, hj]
theorem hb_shr' (x : Int32) (i j : Nat) (hi : i < 32) : hb (x.toUInt32 >>> ((nI i).toUInt32 &&& Int32.toUInt32 (nI 31))).toInt32 j = hb x (i + j) := by
  have e : ∀ i : Fin 32, (((nI i.1).toUInt32 &&& Int32.toUInt32 (nI 31)).toBitVec % 32#32).toNat = i.1 := by decide
  unfold hb
  show (x.toUInt32 >>> ((nI i).toUInt32 &&& Int32.toUInt32 (nI 31))).toBitVec.getLsbD j = _
  rw [UInt32.toBitVec_shiftRight]
  show (x.toUInt32.toBitVec >>> ((((nI i).toUInt32 &&& Int32.toUInt32 (nI 31)).toBitVec % 32#32)).toNat).getLsbD j = _
  rw [e ⟨i, hi⟩, BitVec.getLsbD_ushiftRight]
  rfl
theorem dn_u (x : Int32) : ((x.toUInt32 >>> ((nI 16).toUInt32 &&& Int32.toUInt32 (nI 31))).toInt32) &&& nI 32767 = nI (dn x) := by
  rw [← (dn_s x).1]
  apply hb_ext
  intro j hj
  rw [hb_and, hb_and, hb_15 j hj]
  by_cases h : j < 15
  · rw [hb_shr' x 16 j (by decide), hb_sar' x 16 j (by decide) (by omega)]
  · simp [h]
theorem dn_m (x : Int32) (k : Nat) (h1 : 1 ≤ k) (h2 : k < 1000) : nI (dn x) - nI (dn x) / nI k * nI k = nI (dn x % k) := by
  have hd := (dn_s x).2
  rw [pk_div (by omega) (by omega) (by omega), al_mul, al_sub (Nat.div_mul_le_self _ _)]
  congr 1
  have := Nat.div_add_mod (dn x) k
  rw [Nat.mul_comm] at this
  omega
theorem t_draw {h : jh} {m : Nat} {s : ms} (k : Nat) (h1 : 1 ≤ k) (h2 : k < 1000) : f_X13_draw m (nI k) (pm h m s) = some (nI (dn (nx (s 26 0)) % k), pm h m (sw s 26 (upd (s 26) 0 (nx (s 26 0))))) := by
  unfold f_X13_draw
  rw [pm_gI26, pm_pV26, st2_sw]
  have e : sw s 26 (upd (s 26) 0 (s 26 0 * 1103515245 + 12345)) 26 0 = nx (s 26 0) := by rw [sw_eq]; exact if_pos rfl
  rw [pm_gI26, e, if_neg (show ¬ nI k = 0 by rw [show (0 : Int32) = nI 0 from rfl, al_eq (by omega) (by omega)]; omega), show ((nx (s 26 0)) >>> ((16 : Int32) &&& 31)) &&& 32767 = nI (dn (nx (s 26 0))) from (dn_s _).1, dn_m _ k h1 h2]
  rfl
def ykd (k : Nat) : Int32 := if k = 0 then nI 1 else if k = 1 then nI 0 else nI 2
/-- the operands behind the process, and the seed then -/
noncomputable def yA (w : Nat) (sd : Int32) : Int32 × Int32 × Int32 × Int32 × Int32 :=
  if w = 7 then (nI (dn (nx sd) % 16), ykd (dn (nx (nx sd)) % 3), nI 0, nI 0, nx (nx sd))
  else if w = 4 then (nI (dn (nx sd) % 8), nI (dn (nx (nx sd)) % 100), nI (dn (nx (nx (nx sd))) % 100), nI (dn (nx (nx (nx (nx sd)))) % 20 + 1), nx (nx (nx (nx sd))))
  else if w = 5 then (nI (dn (nx sd) % 100), nI 0, nI 0, nI 0, nx sd)
  else if w = 6 then (nI (dn (nx sd) % 8), nI (dn (nx (nx sd)) % 100), nI 0, nI 0, nx (nx sd))
  else if w = 9 then (nI (dn (nx sd) % 16), nI 0, nI 0, nI 0, nx sd)
  else (nI 0, nI 0, nI 0, nI 0, sd)
noncomputable def yW (sd : Int32) : Nat := dn (nx sd) % 11
noncomputable def yP (sd : Int32) : Int32 := nI (dn (nx (nx sd)) % 16)
noncomputable def yr (v : vw) (sd : Int32) : Int32 × vw := dDo v (yW sd) (yP sd) (yA (yW sd) (nx (nx sd))).1 (yA (yW sd) (nx (nx sd))).2.1 (yA (yW sd) (nx (nx sd))).2.2.1 (yA (yW sd) (nx (nx sd))).2.2.2.1
noncomputable def yS (sd : Int32) : Int32 := (yA (yW sd) (nx (nx sd))).2.2.2.2
/-- a step done again and again -/
def itr (F : vw → Int32 → Int32 × vw) (G : Int32 → Int32) : Nat → vw → Int32 → Nat → vw × Nat
  | 0, v, _, k => (v, k)
  | n + 1, v, sd, k => itr F G n (F v sd).2 (G sd) (if (F v sd).1 = nm1 then k else k + 1)
theorem itr_0 (F : vw → Int32 → Int32 × vw) (G : Int32 → Int32) (v : vw) (sd : Int32) (k : Nat) : itr F G 0 v sd k = (v, k) := rfl
theorem itr_s (F : vw → Int32 → Int32 × vw) (G : Int32 → Int32) (n : Nat) (v : vw) (sd : Int32) (k : Nat) : itr F G (n + 1) v sd k = itr F G n (F v sd).2 (G sd) (if (F v sd).1 = nm1 then k else k + 1) := rfl
theorem itr_ok {F : vw → Int32 → Int32 × vw} {G : Int32 → Int32} (hF : ∀ v sd, OK v → OK (F v sd).2) : ∀ n v sd k, OK v → OK (itr F G n v sd k).1 := by
  intro n
  induction n with
  | zero => intro v sd k h; exact h
  | succ n ih => intro v sd k h; rw [itr_s]; exact ih _ _ _ (hF v sd h)
theorem yr_ok (v : vw) (sd : Int32) (h : OK v) : OK (yr v sd).2 := by unfold yr; exact OK_do h _ _ _ _ _ _
noncomputable def yrs (n : Nat) (v : vw) (sd : Int32) (k : Nat) : vw × Nat := itr yr yS n v sd k
theorem yrs_0 (v : vw) (sd : Int32) (k : Nat) : yrs 0 v sd k = (v, k) := itr_0 yr yS v sd k
theorem yrs_s (n : Nat) (v : vw) (sd : Int32) (k : Nat) : yrs (n + 1) v sd k = yrs n (yr v sd).2 (yS sd) (if (yr v sd).1 = nm1 then k else k + 1) := itr_s yr yS n v sd k
theorem yrs_ok (n : Nat) (v : vw) (sd : Int32) (k : Nat) (h : OK v) : OK (yrs n v sd k).1 := itr_ok yr_ok n v sd k h
def dpl (v : vw) : Nat → Nat → Nat → Nat
  | 0, _, a => a
  | k + 1, i, a => dpl v k (i + 1) (if v 0 i = 1 then (if a < v 30 (v 2 i) then v 30 (v 2 i) else a) else a)
noncomputable def qYr (r : vw × Nat) (w : Nat) : Int32 := if w = 0 then bct (thb r.1) else if w = 1 then nI r.2 else nI (dpl r.1 16 0 0)
noncomputable def qYears (v : vw) (sd n a : Int32) : Nat × Int32 := if cl a 3 < 3 then (if cl n 61 < 61 then (0, qYr (yrs (cl n 61) v sd 0) (cl a 3)) else (2, nI 0)) else (1, nI 0)
theorem t_b166 {h : jh} {m : Nat} {s : ms} {v : vw} (R : RowV (s 2) v) (K : OK v) (w : Nat) (p a b c d : Int32) (hw : w < 11) (h4 : w = 4 → cl b 100 < 100 ∧ cl c 100 < 100 ∧ cl d 100 < 100) (h7 : w = 7 → cl b 3 < 3) : ∃ s', f_X13_happens_b166 m (nI w) p a b c d (pm h m s) = some (bn (decide (¬ (dDo v w p a b c d).1 = nm1)), pm h m s') ∧ RowV (s' 2) (dDo v w p a b c d).2 ∧ SB s s' := by
  obtain ⟨s', e1, e2, e3⟩ := d_does (h := h) (m := m) R K.1 K.2 w p a b c d hw h4 h7
  refine ⟨s', ?_, e3, e2⟩
  unfold f_X13_happens_b166
  rw [pm_cV, e1, bd_some]
  by_cases h0 : (dDo v w p a b c d).1 = nm1
  · rw [if_pos (show (dDo v w p a b c d).1 = (-1 : Int32) from h0), decide_eq_false (not_not_intro h0)]; rfl
  · rw [if_neg (show ¬ (dDo v w p a b c d).1 = (-1 : Int32) from h0), decide_eq_true h0]; rfl
theorem t_hap {h : jh} {m : Nat} {s : ms} {v : vw} (R : RowV (s 2) v) (K : OK v) : ∃ s', f_X13_happens m (pm h m s) = some (bn (decide (¬ (yr v (s 26 0)).1 = nm1)), pm h m s') ∧ RowV (s' 2) (yr v (s 26 0)).2 ∧ s' 26 0 = yS (s 26 0) ∧ ∀ q, q ≠ 2 → q ≠ 17 → q ≠ 26 → s' q = s q := by
  generalize hsd : s 26 0 = sd
  unfold f_X13_happens
  rw [pm_gR0, pm_lnQ, pm_cV, show f_X13_draw m 11 (pm h m s) = _ from t_draw 11 (by decide) (by decide), bd_some, hsd]
  generalize hs1 : sw s 26 (upd (s 26) 0 (nx sd)) = s1
  have a1 : s1 26 0 = nx sd := by rw [← hs1, sw_eq]; exact if_pos rfl
  have b1 : ∀ q, q ≠ 26 → s1 q = s q := fun q hq => by rw [← hs1]; exact sw_ne _ _ _ _ hq
  rw [pm_cV, show f_X13_draw m 16 (pm h m s1) = _ from t_draw 16 (by decide) (by decide), bd_some, a1]
  generalize hs2 : sw s1 26 (upd (s1 26) 0 (nx (nx sd))) = s2
  have a2 : s2 26 0 = nx (nx sd) := by rw [← hs2, sw_eq]; exact if_pos rfl
  have b2 : ∀ q, q ≠ 26 → s2 q = s q := fun q hq => by rw [← hs2, sw_ne _ _ _ _ hq]; exact b1 q hq
  have hw : yW sd < 11 := Nat.mod_lt _ (by decide)
  have eW : nI (dn (nx sd) % 11) = nI (yW sd) := rfl
  have eP : nI (dn (nx (nx sd)) % 16) = yP sd := rfl
  rw [eW, eP]
  have kn : ∀ j, j < 11 → ((nI (yW sd) = (OfNat.ofNat j : Int32)) ↔ yW sd = j) := fun j hj => iff_of_eq (al_eq (by omega) (by omega))
  have fin : ∀ (a b c d sd' : Int32) (s3 : ms), yA (yW sd) (nx (nx sd)) = (a, b, c, d, sd') → (yW sd = 4 → cl b 100 < 100 ∧ cl c 100 < 100 ∧ cl d 100 < 100) → (yW sd = 7 → cl b 3 < 3) → s3 26 0 = sd' → (∀ q, q ≠ 26 → s3 q = s q) → ∃ s', f_X13_happens_b166 m (nI (yW sd)) (yP sd) a b c d (pm h m s3) = some (bn (decide (¬ (yr v sd).1 = nm1)), pm h m s') ∧ RowV (s' 2) (yr v sd).2 ∧ s' 26 0 = yS sd ∧ ∀ q, q ≠ 2 → q ≠ 17 → q ≠ 26 → s' q = s q := by
    intro a b c d sd' s3 ey h4 h7 g1 g2
    have R3 : RowV (s3 2) v := by rw [g2 2 (by decide)]; exact R
    obtain ⟨s', k1, k2, k3⟩ := t_b166 (h := h) (m := m) R3 K (yW sd) (yP sd) a b c d hw h4 h7
    have er : yr v sd = dDo v (yW sd) (yP sd) a b c d := by unfold yr; rw [ey]
    have es : yS sd = sd' := by unfold yS; rw [ey]
    rw [er, es]
    exact ⟨s', k1, k2, by rw [k3 26 (by decide) (by decide)]; exact g1, fun q q1 q2 q3 => (k3 q q1 q2).trans (g2 q q3)⟩
  have dr : ∀ (k : Nat) (s3 : ms), 1 ≤ k → k < 1000 → (∀ q, q ≠ 26 → s3 q = s q) → ∃ s4, f_X13_draw m (nI k) (pm h m s3) = some (nI (dn (nx (s3 26 0)) % k), pm h m s4) ∧ s4 26 0 = nx (s3 26 0) ∧ ∀ q, q ≠ 26 → s4 q = s q := fun k s3 h1 h2 h3 => ⟨_, t_draw k h1 h2, by rw [sw_eq]; exact if_pos rfl, fun q hq => (sw_ne _ _ _ _ hq).trans (h3 q hq)⟩
  have l100 : ∀ x, cl (nI (x % 100)) 100 < 100 := fun x => by rw [cl_in (Nat.mod_lt _ (by decide)) (by decide)]; exact Nat.mod_lt _ (by decide)
  by_cases w7 : yW sd = 7
  · rw [if_neg (not_not_intro ((kn 7 (by decide)).mpr w7))]
    obtain ⟨s3, c1, c2, c3⟩ := dr 16 s2 (by decide) (by decide) b2
    rw [pm_cV, show f_X13_draw m 16 (pm h m s2) = _ from c1, bd_some]
    obtain ⟨s4, d1, d2, d3⟩ := dr 3 s3 (by decide) (by decide) c3
    rw [pm_cV, show f_X13_draw m 3 (pm h m s3) = _ from d1, bd_some, c2, a2]
    rw [c2, a2] at d2
    have hm : dn (nx (nx (nx (nx sd)))) % 3 < 3 := Nat.mod_lt _ (by decide)
    have ey : yA (yW sd) (nx (nx sd)) = (nI (dn (nx (nx (nx sd))) % 16), ykd (dn (nx (nx (nx (nx sd)))) % 3), nI 0, nI 0, nx (nx (nx (nx sd)))) := by unfold yA; rw [if_pos w7]
    generalize hk : dn (nx (nx (nx (nx sd)))) % 3 = k at hm ey
    have hk' : k = 0 ∨ k = 1 ∨ k = 2 := by omega
    rcases hk' with rfl | rfl | rfl
    · rw [if_neg (show ¬ ¬ nI 0 = 0 by decide)]
      exact fin _ _ _ _ _ s4 ey (fun e => by omega) (fun _ => by decide) d2 d3
    · rw [if_pos (show ¬ nI 1 = 0 by decide), if_neg (show ¬ ¬ nI 1 = 1 by decide)]
      exact fin _ _ _ _ _ s4 ey (fun e => by omega) (fun _ => by decide) d2 d3
    · rw [if_pos (show ¬ nI 2 = 0 by decide), if_pos (show ¬ nI 2 = 1 by decide)]
      exact fin _ _ _ _ _ s4 ey (fun e => by omega) (fun _ => by decide) d2 d3
  · rw [if_pos (mt (kn 7 (by decide)).mp w7)]
    by_cases w4 : yW sd = 4
    · rw [if_neg (not_not_intro ((kn 4 (by decide)).mpr w4))]
      obtain ⟨s3, c1, c2, c3⟩ := dr 8 s2 (by decide) (by decide) b2
      rw [a2] at c1 c2
      obtain ⟨s4, d1, d2, d3⟩ := dr 100 s3 (by decide) (by decide) c3
      rw [c2] at d1 d2
      obtain ⟨s5, e1, e2, e3⟩ := dr 100 s4 (by decide) (by decide) d3
      rw [d2] at e1 e2
      obtain ⟨s6, f1, f2, f3⟩ := dr 20 s5 (by decide) (by decide) e3
      rw [e2] at f1 f2
      rw [pm_cV, show f_X13_draw m 8 (pm h m s2) = _ from c1, bd_some, pm_cV, show f_X13_draw m 100 (pm h m s3) = _ from d1, bd_some, pm_cV, show f_X13_draw m 100 (pm h m s4) = _ from e1, bd_some, pm_cV, show f_X13_draw m 20 (pm h m s5) = _ from f1, bd_some]
      rw [show nI (dn (nx (nx (nx (nx (nx (nx sd)))))) % 20) + (1 : Int32) = nI (dn (nx (nx (nx (nx (nx (nx sd)))))) % 20 + 1) from al_add _ 1]
      refine fin _ _ _ _ _ s6 (by unfold yA; rw [if_neg w7, if_pos w4]) (fun _ => ⟨l100 _, l100 _, ?_⟩) (fun e => absurd e w7) f2 f3
      have : dn (nx (nx (nx (nx (nx (nx sd)))))) % 20 < 20 := Nat.mod_lt _ (by decide)
      rw [cl_in (by omega) (by decide)]; omega
    · rw [if_pos (mt (kn 4 (by decide)).mp w4)]
      by_cases w5 : yW sd = 5
      · rw [if_neg (not_not_intro ((kn 5 (by decide)).mpr w5))]
        obtain ⟨s3, c1, c2, c3⟩ := dr 100 s2 (by decide) (by decide) b2
        rw [a2] at c1 c2
        rw [pm_cV, show f_X13_draw m 100 (pm h m s2) = _ from c1, bd_some]
        exact fin _ (nI 0) (nI 0) (nI 0) _ s3 (by unfold yA; rw [if_neg w7, if_neg w4, if_pos w5]) (fun e => absurd e w4) (fun e => absurd e w7) c2 c3
      · rw [if_pos (mt (kn 5 (by decide)).mp w5)]
        by_cases w6 : yW sd = 6
        · rw [if_neg (not_not_intro ((kn 6 (by decide)).mpr w6))]
          obtain ⟨s3, c1, c2, c3⟩ := dr 8 s2 (by decide) (by decide) b2
          rw [a2] at c1 c2
          obtain ⟨s4, d1, d2, d3⟩ := dr 100 s3 (by decide) (by decide) c3
          rw [c2] at d1 d2
          rw [pm_cV, show f_X13_draw m 8 (pm h m s2) = _ from c1, bd_some, pm_cV, show f_X13_draw m 100 (pm h m s3) = _ from d1, bd_some]
          exact fin _ _ (nI 0) (nI 0) _ s4 (by unfold yA; rw [if_neg w7, if_neg w4, if_neg w5, if_pos w6]) (fun e => absurd e w4) (fun e => absurd e w7) d2 d3
        · rw [if_pos (mt (kn 6 (by decide)).mp w6)]
          by_cases w9 : yW sd = 9
          · rw [if_neg (not_not_intro ((kn 9 (by decide)).mpr w9))]
            obtain ⟨s3, c1, c2, c3⟩ := dr 16 s2 (by decide) (by decide) b2
            rw [a2] at c1 c2
            rw [pm_cV, show f_X13_draw m 16 (pm h m s2) = _ from c1, bd_some]
            exact fin _ (nI 0) (nI 0) (nI 0) _ s3 (by unfold yA; rw [if_neg w7, if_neg w4, if_neg w5, if_neg w6, if_pos w9]) (fun e => absurd e w4) (fun e => absurd e w7) c2 c3
          · rw [if_pos (mt (kn 9 (by decide)).mp w9)]
            exact fin (nI 0) (nI 0) (nI 0) (nI 0) _ s2 (by unfold yA; rw [if_neg w7, if_neg w4, if_neg w5, if_neg w6, if_neg w9]) (fun e => absurd e w4) (fun e => absurd e w7) a2 b2
theorem t_year_l {h : jh} {m : Nat} (N : Nat) (hN : N ≤ 60) (a : Int32) (K : Nat → Int32 → Int32 → jh → Option (Int32 × jh)) (L : Nat → Nat → Int32 → Int32 → Int32 → Int32 → jh → Option (Int32 × jh)) (hL : ∀ f, L (f + 1) = f_X13_years_h58 K (L f)) : ∀ k i c f (s : ms) (v : vw), i + k = N → k + 1 ≤ f → RowV (s 2) v → OK v → ∃ s', L f m (nI N) a (nI c) (nI i) (pm h m s) = K m a (nI (yrs k v (s 26 0) c).2) (pm h m s') ∧ RowV (s' 2) (yrs k v (s 26 0) c).1 ∧ ∀ q, q ≠ 2 → q ≠ 17 → q ≠ 26 → s' q = s q := by
  intro k
  induction k with
  | zero =>
    intro i c f s v hi hf R O
    obtain ⟨f, rfl⟩ : ∃ g, f = g + 1 := ⟨f - 1, by omega⟩
    refine ⟨s, ?_, by rw [yrs_0]; exact R, fun _ _ _ _ => rfl⟩
    rw [hL]
    unfold f_X13_years_h58
    rw [if_pos (by rw [al_le (by omega) (by omega)]; omega), yrs_0]
  | succ k ih =>
    intro i c f s v hi hf R O
    obtain ⟨f, rfl⟩ : ∃ g, f = g + 1 := ⟨f - 1, by omega⟩
    obtain ⟨s1, e1, e2, e3, e4⟩ := t_hap (h := h) (m := m) R O
    rw [hL]
    unfold f_X13_years_h58
    rw [if_neg (by rw [al_le (by omega) (by omega)]; omega), pm_cV, e1, bd_some, show nI i + 1 = nI (i + 1) from al_add i 1, yrs_s]
    have O1 : OK (yr v (s 26 0)).2 := yr_ok v _ O
    by_cases h0 : (yr v (s 26 0)).1 = nm1
    · rw [decide_eq_false (not_not_intro h0), if_pos (show bn false = 0 by decide), if_pos h0, show nI c + 0 = nI c from al_add c 0]
      obtain ⟨s2, g1, g2, g3⟩ := ih (i + 1) c f s1 _ (by omega) (by omega) e2 O1
      rw [e3] at g1 g2
      exact ⟨s2, g1, g2, fun q q1 q2 q3 => (g3 q q1 q2 q3).trans (e4 q q1 q2 q3)⟩
    · rw [decide_eq_true h0, if_neg (show ¬ bn true = 0 by decide), if_neg h0, show nI c + 1 = nI (c + 1) from al_add c 1]
      obtain ⟨s2, g1, g2, g3⟩ := ih (i + 1) (c + 1) f s1 _ (by omega) (by omega) e2 O1
      rw [e3] at g1 g2
      exact ⟨s2, g1, g2, fun q q1 q2 q3 => (g3 q q1 q2 q3).trans (e4 q q1 q2 q3)⟩
theorem dpl_le {v : vw} (W : WFv v) : ∀ k i a, i + k = 16 → a ≤ 4 → dpl v k i a ≤ 4 := by
  intro k
  induction k with
  | zero => intro i a _ h; exact h
  | succ k ih =>
    intro i a hi ha
    rw [dpl]
    apply ih _ _ (by omega)
    have h1 := W.pr i (by omega)
    have h2 := W.df0 (v 2 i) (by omega)
    split
    · split <;> omega
    · exact ha
theorem t_deep_l {h : jh} {m : Nat} {s : ms} {v : vw} (R : RowV (s 2) v) (W : WFv v) (L : Nat → Nat → Int32 → Int32 → jh → Option (Int32 × jh)) (hL : ∀ f, L (f + 1) = f_X13_deepest_h4 (fun y11 h10 => some (y11, h10)) (L f)) : ∀ k i a f, i + k = 16 → a ≤ 4 → k + 1 ≤ f → L f m (nI a) (nI i) (pm h m s) = some (nI (dpl v k i a), pm h m s) := by
  intro k
  induction k with
  | zero =>
    intro i a f hi ha hf
    obtain ⟨f, rfl⟩ : ∃ g, f = g + 1 := ⟨f - 1, by omega⟩
    rw [hL]
    unfold f_X13_deepest_h4
    simp (discharger := omega) only [↓al_m, al_lit, al_add, al_mul, bd_some, pm_cV, pm_gR2, bn_0, bn_1, bn_jz, al_le]
    rw [if_pos (by omega), dpl]
  | succ k ih =>
    intro i a f hi ha hf
    obtain ⟨f, rfl⟩ : ∃ g, f = g + 1 := ⟨f - 1, by omega⟩
    rw [hL]
    unfold f_X13_deepest_h4
    have h1 := W.pr i (by omega)
    have h2 := W.df0 (v 2 i) (by omega)
    simp (discharger := omega) only [↓al_m, al_lit, al_add, al_mul, bd_some, pm_cV, pm_gR2, bn_0, bn_1, bn_jz, v_of R, v_nm R, v_ct0 R, v_ct1 R, v_ct2 R, v_ar0 R W, v_ar1 R W, v_ar2 R W, v_dp0 R W, v_dp1 R W, v_dp2 R W, v_kp0 R W, v_kp1 R W, v_kp2 R W, v_gv R W, v_bg R W, v_rn R W, v_sh R W, al_le, al_lt, t_there R W, lt1_e]
    rw [if_neg (by omega), dpl]
    by_cases h0 : v 0 i = 1
    · rw [if_pos h0, decide_eq_true h0, if_neg (by decide)]
      by_cases h3 : a < v 30 (v 2 i)
      · rw [if_pos h3, if_pos h3]; exact ih _ _ f (by omega) h2 (by omega)
      · rw [if_neg h3, if_neg h3]; exact ih _ _ f (by omega) ha (by omega)
    · rw [if_neg h0, decide_eq_false h0, if_pos rfl]; exact ih _ _ f (by omega) ha (by omega)
theorem r_years {h : jh} {m : Nat} {s : ms} {v : vw} (R : RowV (s 2) v) (O : OK v) (sd n a : Int32) : rA h m s (f_X13_years m sd n a (pm h m s)) (qYears v sd n a) := by
  obtain ⟨f0, hf0⟩ := jfu_s
  unfold f_X13_years
  refine ra_in fun s1 h0 e1 ee => ?_
  have R1 : RowV (s1 2) v := by rw [e1]; exact R
  rw [r_isIn, show decide ((0 : Int32) ≤ a ∧ a ≤ 2) = decide (cl a 3 < 3) from in_cl a 2 3 rfl (by decide), bd_some]
  unfold qYears
  rcases i_cases a 3 (by decide) with ⟨w, hw, rfl⟩ | ho
  · rw [cl_in hw (by decide), decide_eq_true hw, if_pos (show ¬ bn true = 0 by decide), if_pos hw, r_isIn, show decide ((0 : Int32) ≤ n ∧ n ≤ 60) = decide (cl n 61 < 61) from in_cl n 60 61 rfl (by decide), bd_some]
    rcases i_cases n 61 (by decide) with ⟨N, hN, rfl⟩ | hon
    · rw [cl_in hN (by decide), decide_eq_true hN, if_pos (show ¬ bn true = 0 by decide), if_pos hN, pm_gR20, pm_gR2]
      obtain ⟨r0, k1, k2⟩ := t_cp8_2 h m s1
      rw [k1, bd_some, pm_pV26, st2_sw]
      generalize hs2 : sw (sw s1 20 r0) 26 (upd (sw s1 20 r0 26) 0 sd) = s2
      have a26 : s2 26 0 = sd := by rw [← hs2, sw_eq]; exact if_pos rfl
      have a20 : s2 20 = r0 := by rw [← hs2, sw_ne _ _ _ _ (by decide), sw_eq]
      have aq : ∀ q, q ≠ 20 → q ≠ 26 → s2 q = s1 q := fun q q1 q2 => by rw [← hs2, sw_ne _ _ _ _ q2, sw_ne _ _ _ _ q1]
      have R2 : RowV (s2 2) v := by rw [aq 2 (by decide) (by decide)]; exact R1
      obtain ⟨s3, g1, g2, g3⟩ := t_year_l (h := h) (m := m) N (by omega) (nI w) (fun y17 y18 y19 h16 => (if ¬ y18 = 0 then (if ¬ y18 = 1 then cV h16 y17 11 (f_X13_deepest y17 h16) fun v22 h23 => f_X13_years_b115 y17 v22 h23 else f_X13_years_b115 y17 y19 h16) else cV h16 y17 11 (f_X13_thereBits y17 h16) fun v27 h28 => bd (f_J6_bitCount_0f7a4 v27 h28) fun v29 h30 => f_X13_years_b115 y17 v29 h30)) (jlp5 (f_X13_years_h58 (fun y17 y18 y19 h16 => (if ¬ y18 = 0 then (if ¬ y18 = 1 then cV h16 y17 11 (f_X13_deepest y17 h16) fun v22 h23 => f_X13_years_b115 y17 v22 h23 else f_X13_years_b115 y17 y19 h16) else cV h16 y17 11 (f_X13_thereBits y17 h16) fun v27 h28 => bd (f_J6_bitCount_0f7a4 v27 h28) fun v29 h30 => f_X13_years_b115 y17 v29 h30)))) (fun _ => rfl) N 0 0 jfu s2 v (by omega) (by omega) R2 O
      rw [a26] at g1 g2
      refine (congrArg (fun o => rA h m s1 o _) g1).mpr ?_
      have O3 := yrs_ok N v sd 0 O
      have b115 : ∀ x : Int32, rA h m s1 (f_X13_years_b115 m x (pm h m s3)) (0, x) := by
        intro x
        unfold f_X13_years_b115
        obtain ⟨r4, q1, q2⟩ := t_cp2_8 h m s3
        rw [pm_gR2, pm_gR20, q1, bd_some]
        refine ⟨_, rfl, ?_, ⟨fun j hj => ?_, fun q q1 q2 q3 q4 q5 q6 => ?_⟩⟩
        · rw [sw_ne _ _ _ _ (by decide), g3 1 (by decide) (by decide) (by decide), aq 1 (by decide) (by decide)]; exact h0
        · rw [sw_eq, q2 j hj, g3 20 (by decide) (by decide) (by decide), a20, k2 j hj]
        · rw [sw_ne _ _ _ _ q2, g3 q q2 q3 q6, aq q q4 q6]
      unfold qYr
      have hw' : w = 0 ∨ w = 1 ∨ w = 2 := by omega
      rcases hw' with rfl | rfl | rfl
      · rw [if_neg (show ¬ ¬ nI 0 = 0 by decide), if_pos rfl, pm_cV, t_thereB g2 O3.1, bd_some, bct_e, bd_some]
        exact b115 _
      · rw [if_pos (show ¬ nI 1 = 0 by decide), if_neg (show ¬ ¬ nI 1 = 1 by decide), if_neg (by decide), if_pos rfl]
        exact b115 _
      · rw [if_pos (show ¬ nI 2 = 0 by decide), if_pos (show ¬ nI 2 = 1 by decide), if_neg (by decide), if_neg (by decide), pm_cV]
        have e9 : f_X13_deepest m (pm h m s3) = some (nI (dpl (yrs N v sd 0).1 16 0 0), pm h m s3) := t_deep_l g2 O3.1 (jlp3 (f_X13_deepest_h4 (fun y11 h10 => some (y11, h10)))) (fun _ => rfl) 16 0 0 jfu (by omega) (by omega) (by omega)
        rw [e9, bd_some]
        exact b115 _
    · rw [cl_out hon, show decide (61 < 61) = false from rfl, if_neg (show ¬ ¬ bn false = 0 by decide), if_neg (by decide)]
      exact ra_fail 2
  · rw [cl_out ho, show decide (3 < 3) = false from rfl, if_neg (show ¬ ¬ bn false = 0 by decide), if_neg (by decide)]
    exact ra_fail 1
