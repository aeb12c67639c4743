/-! the class's reader: clauses -/
theorem dOl_eq (v : vw) (w : Nat) (hw : w < 11) (o : Nat → Int32) (l : List Int32) (h : ∀ j, j < (csh w).length → o j = l.getD j 0) : dDo v w (o 0) (o 1) (o 2) (o 3) (o 4) = dOl v w l := by
  unfold dOl
  obtain ⟨c0, c1, c2, c3, c8, c10⟩ := csh_1
  have hw' : w = 0 ∨ w = 1 ∨ w = 2 ∨ w = 3 ∨ w = 4 ∨ w = 5 ∨ w = 6 ∨ w = 7 ∨ w = 8 ∨ w = 9 ∨ w = 10 := by omega
  rcases hw' with rfl | rfl | rfl | rfl | rfl | rfl | rfl | rfl | rfl | rfl | rfl
  · rw [← h 0 (by rw [c0]; decide)]; exact dDo_0 _ _ (by omega) _ _ _ _ _ _ _ _ _
  · rw [← h 0 (by rw [c1]; decide)]; exact dDo_0 _ _ (by omega) _ _ _ _ _ _ _ _ _
  · rw [← h 0 (by rw [c2]; decide)]; exact dDo_0 _ _ (by omega) _ _ _ _ _ _ _ _ _
  · rw [← h 0 (by rw [c3]; decide)]; exact dDo_0 _ _ (by omega) _ _ _ _ _ _ _ _ _
  · rw [← h 0 (by rw [csh_4]; decide), ← h 1 (by rw [csh_4]; decide), ← h 2 (by rw [csh_4]; decide), ← h 3 (by rw [csh_4]; decide), ← h 4 (by rw [csh_4]; decide)]
  · rw [← h 0 (by rw [csh_5]; decide), ← h 1 (by rw [csh_5]; decide)]; exact dDo_1 _ _ (by omega) _ _ _ _ _ _ _ _
  · rw [← h 0 (by rw [csh_6]; decide), ← h 1 (by rw [csh_6]; decide), ← h 2 (by rw [csh_6]; decide)]; exact dDo_2 _ _ (by omega) _ _ _ _ _ _ _
  · rw [← h 0 (by rw [csh_7]; decide), ← h 1 (by rw [csh_7]; decide), ← h 2 (by rw [csh_7]; decide)]; exact dDo_2 _ _ (by omega) _ _ _ _ _ _ _
  · rw [← h 0 (by rw [c8]; decide)]; exact dDo_0 _ _ (by omega) _ _ _ _ _ _ _ _ _
  · rw [← h 0 (by rw [csh_9]; decide), ← h 1 (by rw [csh_9]; decide)]; exact dDo_1 _ _ (by omega) _ _ _ _ _ _ _ _
  · rw [← h 0 (by rw [c10]; decide)]; exact dDo_0 _ _ (by omega) _ _ _ _ _ _ _ _ _
theorem drop_c (l : List Nat) (i : Nat) (h : i < l.length) : l.drop i = l.getD i 0 :: l.drop (i + 1) := by
  induction l generalizing i with
  | nil => cases h
  | cons a l ih =>
    cases i with
    | zero => rfl
    | succ i => exact ih i (by simpa using h)
section RDD
variable {H : jh} {z : Nat} {tape : Nat → Int32} {n : Int32} {B : Nat → Nat} {N : Nat}
theorem c_opd_l (hB : BB B N) (ht : ∀ j, j < N → tape j = nI (B j)) (w : Nat) (hw : w < 11) (K : Nat → jh → Option (Int32 × jh)) (L : Nat → Nat → Nat → Int32 → jh → Option (Int32 × jh)) (hL : ∀ f, L (f + 1) = f_X6_readOperands_h2 K (L f)) : ∀ k i f (ops : Nat → Int32) p (tk ts : Int32), i + k = (csh w).length → k + 1 ≤ f → p ≤ N → ∃ (ops' : Nat → Int32) (tk' ts' te' : Int32), L f (z + 96) w (nI i) (pre H z tape ops n (nI N) tk ts (nI p)) = (if (rdl B N ((csh w).drop i) p).1.1 = 0 then K (z + 96) (pre H z tape ops' n (nI N) tk' ts' te') else some (nI (rdl B N ((csh w).drop i) p).1.1, pre H z tape ops' n (nI N) tk' ts' te')) ∧ (∀ j, j < i → ops' j = ops j) ∧ ((rdl B N ((csh w).drop i) p).1.1 = 0 → te' = nI (rdl B N ((csh w).drop i) p).1.2 ∧ ∀ j, i ≤ j → j < (csh w).length → ops' j = (rdl B N ((csh w).drop i) p).2.getD (j - i) 0) ∧ ((rdl B N ((csh w).drop i) p).1.1 ≠ 0 → ts' = nI (rdl B N ((csh w).drop i) p).1.2) := by
  obtain ⟨hs, hl, hc⟩ := csh_b w hw
  have el : ∀ {β : Type} (G : Int32 → Option β), (eS w fun v1 => tL v1 fun v2 => G v2) = G (nI (csh w).length) := fun G => by rw [eS_e hw, tL_e hs]; rfl
  have ec : ∀ {β : Type} (i : Nat) (G : Int32 → Option β), i < (csh w).length → (eS w fun v1 => tC v1 (nI i) fun v2 => G v2) = G (nI ((csh w).getD i 0)) := fun i G h => by rw [eS_e hw, tC_e hs h (show (csh w).length < 1000 by omega)]; rfl
  have hN := hB.1
  intro k
  induction k with
  | zero =>
    intro i f ops p tk ts hi hf hp
    obtain ⟨f, rfl⟩ : ∃ g, f = g + 1 := ⟨f - 1, by omega⟩
    rw [hL, List.drop_eq_nil_of_le (show (csh w).length ≤ i by omega)]
    unfold f_X6_readOperands_h2
    refine ⟨ops, tk, ts, nI p, ?_, fun _ _ => rfl, fun _ => ⟨rfl, fun j h1 h2 => by omega⟩, fun h => absurd rfl h⟩
    rw [el, if_pos (show nI (csh w).length ≤ nI i by rw [al_le (by omega) (by omega)]; omega), if_pos (show (rdl B N [] p).1.1 = 0 from rfl)]
  | succ k ih =>
    intro i f ops p tk ts hi hf hp
    obtain ⟨f, rfl⟩ : ∃ g, f = g + 1 := ⟨f - 1, by omega⟩
    have hil : i < (csh w).length := by omega
    have hb := tk_b hB p hp
    have hci := hc i hil
    rw [hL, drop_c _ _ hil]
    have e107 : (nI ((csh w).getD i 0) = 107) = ((csh w).getD i 0 = 107) := al_eq (b := 107) (by omega) (by omega)
    have key : ∃ ops1, (if ¬ nI ((csh w).getD i 0) = 107 then
        (eS w fun v9 => tC v9 (nI i) fun v10 => cV (pre H z tape ops n (nI N) (nI (tY B N p)) (nI (tS B N p)) (nI (tE B N p))) (z + 96) 4 (f_X6_readNumber (z + 96) (nI i) v10 (pre H z tape ops n (nI N) (nI (tY B N p)) (nI (tS B N p)) (nI (tE B N p)))) fun v11 h12 => f_X6_readOperands_b56 (L f) K (z + 96) w (nI i) v11 h12)
        else cV (pre H z tape ops n (nI N) (nI (tY B N p)) (nI (tS B N p)) (nI (tE B N p))) (z + 96) 4 (f_X6_readKind (z + 96) (nI i) (pre H z tape ops n (nI N) (nI (tY B N p)) (nI (tS B N p)) (nI (tE B N p)))) fun v14 h15 => f_X6_readOperands_b56 (L f) K (z + 96) w (nI i) v14 h15)
        = f_X6_readOperands_b56 (L f) K (z + 96) w (nI i) (nI (opF B N ((csh w).getD i 0) p)) (pre H z tape ops1 n (nI N) (nI (tY B N p)) (nI (tS B N p)) (nI (tE B N p))) ∧ (∀ j, j ≠ i → ops1 j = ops j) ∧ (opF B N ((csh w).getD i 0) p = 0 → ops1 i = opV B N ((csh w).getD i 0) p) := by
      unfold opF opV
      by_cases c7 : (csh w).getD i 0 = 107
      · obtain ⟨o1, a1, a2, a3⟩ := c_kind (H := H) (z := z) (ops := ops) (n := n) hB ht p i hp (by omega)
        refine ⟨o1, ?_, a2, ?_⟩
        · rw [if_neg (not_not_intro (by rw [e107]; exact c7)), pe_c, a1, bd_some, if_pos c7]
        · rw [if_pos c7, if_pos c7]; exact a3
      · obtain ⟨o1, a1, a2, a3⟩ := c_num (H := H) (z := z) (ops := ops) (n := n) hB ht p i ((csh w).getD i 0) hp (by omega) hci
        refine ⟨o1, ?_, a2, ?_⟩
        · rw [if_pos (by rw [e107]; exact c7), ec i _ hil, pe_c, a1, bd_some, if_neg c7]
        · rw [if_neg c7, if_neg c7]; exact a3
    obtain ⟨ops1, k1, k2, k3⟩ := key
    have start : f_X6_readOperands_h2 K (L f) (z + 96) w (nI i) (pre H z tape ops n (nI N) tk ts (nI p)) = f_X6_readOperands_b56 (L f) K (z + 96) w (nI i) (nI (opF B N ((csh w).getD i 0) p)) (pre H z tape ops1 n (nI N) (nI (tY B N p)) (nI (tS B N p)) (nI (tE B N p))) := by
      unfold f_X6_readOperands_h2
      rw [el, if_neg (show ¬ nI (csh w).length ≤ nI i by rw [al_le (by omega) (by omega)]; omega), if_neg (show ¬ (5 : Int32) ≤ nI i by rw [show (5 : Int32) = nI 5 from rfl, al_le (by omega) (by omega)]; omega), pe_c, c_next' hB ht p hp, bd_some, ec i _ hil]
      exact k1
    have hop := opF_le B N ((csh w).getD i 0) p
    have e0 : (nI (opF B N ((csh w).getD i 0) p) = 0) = (opF B N ((csh w).getD i 0) p = 0) := al_eq (b := 0) (by omega) (by omega)
    rw [start, rdl]
    unfold f_X6_readOperands_b56
    by_cases c0 : opF B N ((csh w).getD i 0) p = 0
    · rw [if_pos (by rw [e0]; exact c0), if_pos c0, show nI i + (1 : Int32) = nI (i + 1) from al_add i 1]
      obtain ⟨o2, tk2, ts2, te2, a1, a2, a3, a4⟩ := ih (i + 1) f ops1 (tE B N p) (nI (tY B N p)) (nI (tS B N p)) (by omega) (by omega) hb.2.2.1
      refine ⟨o2, tk2, ts2, te2, a1, fun j hj => by rw [a2 j (by omega), k2 j (by omega)], fun g => ⟨(a3 g).1, fun j h1 h2 => ?_⟩, a4⟩
      by_cases ej : j = i
      · subst ej
        rw [a2 j (by omega), k3 c0, Nat.sub_self]; rfl
      · rw [(a3 g).2 j (by omega) h2, show j - i = (j - (i + 1)) + 1 by omega]; rfl
    · rw [if_neg (by rw [e0]; exact c0), if_neg c0]
      exact ⟨ops1, nI (tY B N p), nI (tS B N p), nI (tE B N p), (if_neg c0).symm, fun j hj => k2 j (by omega), fun g => absurd g c0, fun _ => rfl⟩
theorem c_opr (hB : BB B N) (ht : ∀ j, j < N → tape j = nI (B j)) (w : Nat) (hw : w < 11) (ops : Nat → Int32) (p : Nat) (tk ts : Int32) (hp : p ≤ N) : ∃ (ops' : Nat → Int32) (tk' ts' te' : Int32), f_X6_readOperands (z + 96) w (pre H z tape ops n (nI N) tk ts (nI p)) = some (nI (rdF B N (csh w) p).1, pre H z tape ops' n (nI N) tk' ts' te') ∧ ((rdF B N (csh w) p).1 = 0 → te' = nI (rdF B N (csh w) p).2 ∧ ∀ j, j < (csh w).length → ops' j = (rdl B N (csh w) p).2.getD j 0) ∧ ((rdF B N (csh w) p).1 ≠ 0 → ts' = nI (rdF B N (csh w) p).2) := by
  obtain ⟨f0, hf0⟩ := jfu_s
  obtain ⟨hs, hl, hc⟩ := csh_b w hw
  obtain ⟨o, tk1, ts1, te1, a1, a2, a3, a4⟩ := c_opd_l (H := H) (z := z) (n := n) hB ht w hw (fun y17 h16 => f_X6_readOperands_b69 y17 h16) (jlp3 (f_X6_readOperands_h2 (fun y17 h16 => f_X6_readOperands_b69 y17 h16))) (fun _ => rfl) (csh w).length 0 jfu ops p tk ts (by omega) (by omega) hp
  rw [List.drop_zero] at a1 a3 a4
  have hr := rdl_b hB (csh w) p hp
  unfold f_X6_readOperands rdF
  by_cases c0 : (rdl B N (csh w) p).1.1 = 0
  · obtain ⟨b1, b2⟩ := a3 c0
    have ht3 := tk_b hB _ hr.2
    rw [if_pos c0, b1] at a1
    rw [if_pos c0]
    have e3 : (nI (tY B N (rdl B N (csh w) p).1.2) = 3) = (tY B N (rdl B N (csh w) p).1.2 = 3) := al_eq (b := 3) (by omega) (by omega)
    refine ⟨o, nI (tY B N (rdl B N (csh w) p).1.2), nI (tS B N (rdl B N (csh w) p).1.2), nI (tE B N (rdl B N (csh w) p).1.2), a1.trans ?_, ?_, ?_⟩
    · unfold f_X6_readOperands_b69
      rw [pe_c, c_next' hB ht _ hr.2, bd_some, pe_4]
      by_cases c3 : tY B N (rdl B N (csh w) p).1.2 = 3
      · rw [if_neg (not_not_intro (by rw [e3]; exact c3)), if_pos c3]; rfl
      · rw [if_pos (by rw [e3]; exact c3), if_neg c3]; rfl
    · by_cases c3 : tY B N (rdl B N (csh w) p).1.2 = 3
      · rw [if_pos c3]; exact fun _ => ⟨rfl, fun j hj => by rw [b2 j (Nat.zero_le _) hj]; rfl⟩
      · rw [if_neg c3]; exact fun g => by cases g
    · by_cases c3 : tY B N (rdl B N (csh w) p).1.2 = 3
      · rw [if_pos c3]; exact fun g => absurd rfl g
      · rw [if_neg c3]; exact fun _ => rfl
  · rw [if_neg c0] at a1
    rw [if_neg c0]
    exact ⟨o, tk1, ts1, te1, a1, fun g => absurd g c0, a4⟩
theorem pre_fr (ops : Nat → Int32) (ln tk ts te : Int32) : Fr H (pre H z tape ops n ln tk ts te) (z + 96) 3 := ⟨rfl, rfl, fun q hq => pre_o q (by omega)⟩
def inR (z q : Nat) : Prop := (z + 64 ≤ q ∧ q < z + 92) ∨ (z + 96 ≤ q ∧ q < z + 99)
theorem c_read_l (hB : BB B N) (ht : ∀ j, j < N → tape j = nI (B j)) (L : Nat → Nat → Nat → Int32 → jh → Option (Int32 × jh)) (hL : ∀ f, L (f + 1) = f_X6_read_h22 (fun h28 => some (0, h28)) (L f)) : ∀ k c f (H : jh) (ops : Nat → Int32) p (tk ts : Int32) (v : vw), c + k = 61 → k + 1 ≤ f → p ≤ N → HV H (z + 64) v → OK v → ∃ (H' : jh) (ops' : Nat → Int32) (tk' ts' te' : Int32) (v' : vw), L f (z + 96) (z + 64) (nI c) (pre H z tape ops n (nI N) tk ts (nI p)) = some (nI (prl B N k c p).1, pre H' z tape ops' n (nI N) tk' ts' te') ∧ HV H' (z + 64) v' ∧ ((prl B N k c p).1 = 0 → v' = runL (prl B N k c p).2.2 v) ∧ ((prl B N k c p).1 ≠ 0 → ts' = nI (prl B N k c p).2.1) ∧ H'.1 = H.1 ∧ H'.2.1 = H.2.1 ∧ ∀ q, ¬ inR z q → H'.2.2 q = H.2.2 q := by
  have hN := hB.1
  intro k
  induction k with
  | zero =>
    intro c f H ops p tk ts v hi hf hp hv hO
    obtain ⟨f, rfl⟩ : ∃ g, f = g + 1 := ⟨f - 1, by omega⟩
    refine ⟨H, ops, tk, ts, nI p, v, ?_, hv, fun _ => rfl, fun g => absurd rfl g, rfl, rfl, fun _ _ => rfl⟩
    rw [hL]
    unfold f_X6_read_h22
    rw [if_pos (show (60 : Int32) < nI c by rw [show (60 : Int32) = nI 60 from rfl, al_lt (by omega) (by omega)]; omega)]
    rfl
  | succ k ih =>
    intro c f H ops p tk ts v hi hf hp hv hO
    obtain ⟨f, rfl⟩ : ∃ g, f = g + 1 := ⟨f - 1, by omega⟩
    have hb := tk_b hB p hp
    have hw := whW_le B N p
    have e0 : (nI (tY B N p) = 0) = (tY B N p = 0) := al_eq (b := 0) (by omega) (by omega)
    have e60 : (nI c = 60) = (c = 60) := al_eq (b := 60) (by omega) (by omega)
    have st : f_X6_read_h22 (fun h28 => some (0, h28)) (L f) (z + 96) (z + 64) (nI c) (pre H z tape ops n (nI N) tk ts (nI p)) = _ := rfl
    rw [hL, prl]
    unfold f_X6_read_h22
    rw [if_neg (show ¬ (60 : Int32) < nI c by rw [show (60 : Int32) = nI 60 from rfl, al_lt (by omega) (by omega)]; omega), pe_c, c_next' hB ht p hp, bd_some, pe_4]
    by_cases c1 : tY B N p = 0
    · rw [if_neg (not_not_intro (by rw [e0]; exact c1)), if_pos c1]
      exact ⟨H, ops, _, _, _, v, rfl, hv, fun _ => rfl, fun g => absurd rfl g, rfl, rfl, fun _ _ => rfl⟩
    · rw [if_pos (by rw [e0]; exact c1), if_neg c1, pe_c, c_named hB ht p hp, bd_some]
      by_cases c2 : whW B N p = 11
      · rw [if_pos c2, if_pos c2]
        exact ⟨H, ops, _, _, _, v, rfl, hv, fun g => (by cases g), fun _ => rfl, rfl, rfl, fun _ _ => rfl⟩
      · rw [if_neg c2, if_neg c2, nq_some]
        by_cases c3 : c = 60
        · rw [if_neg (not_not_intro (by rw [e60]; exact c3)), if_pos c3]
          exact ⟨H, ops, _, _, _, v, rfl, hv, fun g => (by cases g), fun _ => rfl, rfl, rfl, fun _ _ => rfl⟩
        · rw [if_pos (by rw [e60]; exact c3), if_neg c3, pe_c]
          obtain ⟨o1, tk1, ts1, te1, a1, a2, a3⟩ := c_opr (H := H) (z := z) (n := n) hB ht (whW B N p) (by omega) ops (tE B N p) (nI (tY B N p)) (nI (tS B N p)) hb.2.2.1
          have hF := rdF_b hB (csh (whW B N p)) (tE B N p) hb.2.2.1
          have eF : (nI (rdF B N (csh (whW B N p)) (tE B N p)).1 = 0) = ((rdF B N (csh (whW B N p)) (tE B N p)).1 = 0) := al_eq (b := 0) (by omega) (by omega)
          rw [a1, bd_some]
          by_cases c4 : (rdF B N (csh (whW B N p)) (tE B N p)).1 = 0
          · obtain ⟨d1, d2⟩ := a2 c4
            rw [if_pos (by rw [eF]; exact c4), if_pos c4, d1]
            have hv1 : HV (pre H z tape o1 n (nI N) tk1 ts1 (nI (rdF B N (csh (whW B N p)) (tE B N p)).2)) (z + 64) v := hv.fr (pre_fr _ _ _ _ _) (by omega)
            obtain ⟨fs, hfs⟩ := hv1.b.at0
            obtain ⟨H2, g1, g2, g3⟩ := HV_attempt hv1 hO (whW B N p) (o1 0) (o1 1) (o1 2) (o1 3) (o1 4) (by omega)
            rw [pe_1, show (0 : Int32) = nI 0 from rfl, pa_o 0 (by decide), pe_1, show (1 : Int32) = nI 1 from rfl, pa_o 1 (by decide), pe_1, show (2 : Int32) = nI 2 from rfl, pa_o 2 (by decide), pe_1, show (3 : Int32) = nI 3 from rfl, pa_o 3 (by decide), pe_1, show (4 : Int32) = nI 4 from rfl, pa_o 4 (by decide), cV_of hfs, g1, bd_some, show nI c + nI 1 = nI (c + 1) from al_add c 1]
            have e2 := pre_id (H := H2) (z := z) (tape := tape) (ops := o1) (n := n) (ln := nI N) (tk := tk1) (ts := ts1) (te := nI (rdF B N (csh (whW B N p)) (tE B N p)).2) (by rw [g3.2.2 _ (by omega)]; exact pre_96) (by rw [g3.2.2 _ (by omega)]; exact pre_97) (by rw [g3.2.2 _ (by omega)]; exact pre_98)
            have ed := dOl_eq v (whW B N p) (by omega) o1 _ d2
            rw [ed] at g2
            obtain ⟨H3, o3, tk3, ts3, te3, v3, m1, m2, m3, m4, m5, m6, m7⟩ := ih (c + 1) f H2 o1 _ tk1 ts1 _ (by omega) (by omega) hF.2 g2 (by rw [← ed]; exact OK_do hO _ _ _ _ _ _)
            rw [e2] at m1
            refine ⟨H3, o3, tk3, ts3, te3, v3, m1, m2, m3, m4, m5.trans g3.1, m6.trans g3.2.1, fun q hq => ?_⟩
            rw [m7 q hq, g3.2.2 q (by unfold inR at hq; omega)]
            exact pre_o q (by unfold inR at hq; omega)
          · rw [if_neg (by rw [eF]; exact c4), if_neg c4]
            exact ⟨H, o1, tk1, ts1, te1, v, rfl, hv, fun g => absurd g c4, a3, rfl, rfl, fun _ _ => rfl⟩
theorem c_read (hB : BB B N) (ht : ∀ j, j < N → tape j = nI (B j)) (ops : Nat → Int32) (ln tk ts te : Int32) (v : vw) (hv : HV H (z + 64) v) (hO : OK v) : ∃ (H' : jh) (ops' : Nat → Int32) (tk' ts' te' : Int32) (v' : vw), f_X6_read (z + 96) (nI N) (z + 64) (pre H z tape ops n ln tk ts te) = some (nI (prl B N 61 0 0).1, pre H' z tape ops' n (nI N) tk' ts' te') ∧ HV H' (z + 64) v' ∧ ((prl B N 61 0 0).1 = 0 → v' = runL (prl B N 61 0 0).2.2 v) ∧ ((prl B N 61 0 0).1 ≠ 0 → ts' = nI (prl B N 61 0 0).2.1) ∧ H'.1 = H.1 ∧ H'.2.1 = H.2.1 ∧ ∀ q, ¬ inR z q → H'.2.2 q = H.2.2 q := by
  obtain ⟨f0, hf0⟩ := jfu_s
  have hN := hB.1
  obtain ⟨H', o, tk', ts', te', v', a1, a2⟩ := c_read_l (z := z) (n := n) hB ht (jlp3 (f_X6_read_h22 (fun h28 => some (0, h28)))) (fun _ => rfl) 61 0 jfu H ops 0 tk ts v (by omega) (by omega) (Nat.zero_le _) hv hO
  refine ⟨H', o, tk', ts', te', v', ?_, a2⟩
  unfold f_X6_read lt1
  have e9 : (if (900 : Int32) < nI N then (900 : Int32) else nI N) = nI N := if_neg (by rw [show (900 : Int32) = nI 900 from rfl, al_lt (by omega) (by omega)]; omega)
  have e8 : (if (0 : Int32) < nI N then nI N else (0 : Int32)) = nI N := by
    by_cases h0 : N = 0
    · subst h0; rfl
    · exact if_pos (by rw [show (0 : Int32) = nI 0 from rfl, al_lt (by omega) (by omega)]; omega)
  simp only [e9, e8]
  rw [pp_3, show (0 : Int32) = nI 0 from rfl, pp_6]
  exact a1
end RDD
