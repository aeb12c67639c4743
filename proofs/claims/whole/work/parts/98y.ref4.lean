/-! the reference's reader: a clause, and the text -/
def EN (c : Nat → Int32) (i : Nat) (e : Nat × List Int32) : Prop := c (6 * i) = nI e.1 ∧ ∀ j, j < 5 → c (6 * i + 1 + j) = e.2.getD j 0
section RC4
variable {h : jh} {m : Nat} {s : ms} {c : Nat → Int32} {B : Nat → Nat} {N : Nat} {s' : ms}
theorem q_two (hB : BB B N) (h7 : s 7 0 = nI N) (h4 : ∀ j, j < N → s 4 j = nI (B j)) {k : Int32} {r : Nat × Nat} (w : Nat) (hw : w < 11) (S : SN B N s s' r c k) (J : Nat) (hJ : J + 5 < 360) : ∃ x2 x3 x4 x5 s'', (if nI w = 4 then f_X13_readClause_b102 m (nI w) (nI J) (nI J + 2) (m + 5) (pm h m s') else (if ¬ nI w = 6 then (if nI w = 7 then f_X13_readClause_b123 m (nI w) (nI J) (nI J + 2) (m + 5) (pm h m s') else (if ¬ nI w = 9 then (if ¬ nI w = 5 then f_X13_readClause_b147 m (nI w) (nI J) 0 (nI J + 2) (m + 5) (pm h m s') else cV (pm h m s') m 11 (f_X13_readNumber m 99 (pm h m s')) fun v57 h58 => f_X13_readClause_b147 m (nI w) (nI J) v57 (nI J + 2) (m + 5) h58) else f_X13_readClause_b123 m (nI w) (nI J) (nI J + 2) (m + 5) (pm h m s'))) else f_X13_readClause_b102 m (nI w) (nI J) (nI J + 2) (m + 5) (pm h m s'))) = some ((), pm h m s'') ∧ SN B N s s'' (eoS B N (opS B N (ch5 w) (opS B N (ch4 w) (opS B N (ch3 w) (opS B N (ch2 w) r))))) (upd (upd (upd (upd c (J + 2) x2) (J + 3) x3) (J + 4) x4) (J + 5) x5) (k + 1) ∧ ((opS B N (ch5 w) (opS B N (ch4 w) (opS B N (ch3 w) (opS B N (ch2 w) r)))).1 = 0 → x5 = opX B N (ch5 w) (opS B N (ch4 w) (opS B N (ch3 w) (opS B N (ch2 w) r)))) ∧ ((opS B N (ch4 w) (opS B N (ch3 w) (opS B N (ch2 w) r))).1 = 0 → x4 = opX B N (ch4 w) (opS B N (ch3 w) (opS B N (ch2 w) r))) ∧ ((opS B N (ch3 w) (opS B N (ch2 w) r)).1 = 0 → x3 = opX B N (ch3 w) (opS B N (ch2 w) r)) ∧ ((opS B N (ch2 w) r).1 = 0 → x2 = opX B N (ch2 w) r) := by
  have eJ : nI J + (2 : Int32) = nI (J + 2) := al_add J 2
  have kn : ∀ j : Nat, j < 11 → ((nI w = (OfNat.ofNat j : Int32)) = (w = j)) := fun j hj => al_eq (by omega) (by omega)
  have go : ∀ (ch : Nat), ch ≠ 107 → ch2 w = some ch → ∃ x2 x3 x4 x5 s'', (cV (pm h m s') m 11 (f_X13_readNumber m (nI (gtt ch)) (pm h m s')) fun v57 h58 => f_X13_readClause_b147 m (nI w) (nI J) v57 (nI (J + 2)) (m + 5) h58) = some ((), pm h m s'') ∧ SN B N s s'' (eoS B N (opS B N (ch5 w) (opS B N (ch4 w) (opS B N (ch3 w) (opS B N (ch2 w) r))))) (upd (upd (upd (upd c (J + 2) x2) (J + 3) x3) (J + 4) x4) (J + 5) x5) (k + 1) ∧ ((opS B N (ch5 w) (opS B N (ch4 w) (opS B N (ch3 w) (opS B N (ch2 w) r)))).1 = 0 → x5 = opX B N (ch5 w) (opS B N (ch4 w) (opS B N (ch3 w) (opS B N (ch2 w) r)))) ∧ ((opS B N (ch4 w) (opS B N (ch3 w) (opS B N (ch2 w) r))).1 = 0 → x4 = opX B N (ch4 w) (opS B N (ch3 w) (opS B N (ch2 w) r))) ∧ ((opS B N (ch3 w) (opS B N (ch2 w) r)).1 = 0 → x3 = opX B N (ch3 w) (opS B N (ch2 w) r)) ∧ ((opS B N (ch2 w) r).1 = 0 → x2 = opX B N (ch2 w) r) := by
    intro ch hc e2
    obtain ⟨x2, s2, a1, a2, a3⟩ := q_opn (h := h) (m := m) hB h7 h4 ch hc S
    rw [pm_cV, a1, bd_some, e2]
    obtain ⟨x3, x4, x5, s3, b1, b2, b3, b4, b5⟩ := q_147 (h := h) (m := m) hB h7 h4 w hw a2 J hJ x2
    exact ⟨x2, x3, x4, x5, s3, b1, b2, b3, b4, b5, a3⟩
  rw [eJ]
  by_cases c4 : w = 4
  · rw [if_pos (by rw [kn 4 (by decide)]; exact c4)]
    exact go 115 (by decide) (by unfold ch2; rw [if_pos (Or.inl c4)])
  · rw [if_neg (by rw [kn 4 (by decide)]; exact c4)]
    by_cases c6 : w = 6
    · rw [if_neg (not_not_intro (by rw [kn 6 (by decide)]; exact c6))]
      exact go 115 (by decide) (by unfold ch2; rw [if_pos (Or.inr c6)])
    · rw [if_pos (by rw [kn 6 (by decide)]; exact c6)]
      by_cases c7 : w = 7
      · rw [if_pos (by rw [kn 7 (by decide)]; exact c7)]
        exact go 112 (by decide) (by unfold ch2; rw [if_neg (by omega), if_pos (Or.inl c7)])
      · rw [if_neg (by rw [kn 7 (by decide)]; exact c7)]
        by_cases c9 : w = 9
        · rw [if_neg (not_not_intro (by rw [kn 9 (by decide)]; exact c9))]
          exact go 112 (by decide) (by unfold ch2; rw [if_neg (by omega), if_pos (Or.inr c9)])
        · rw [if_pos (by rw [kn 9 (by decide)]; exact c9)]
          by_cases c5 : w = 5
          · rw [if_neg (not_not_intro (by rw [kn 5 (by decide)]; exact c5))]
            exact go 110 (by decide) (by unfold ch2; rw [if_neg (by omega), if_neg (by omega), if_pos c5])
          · have e2 : ch2 w = none := by unfold ch2; rw [if_neg (by omega), if_neg (by omega), if_neg c5]
            rw [if_pos (by rw [kn 5 (by decide)]; exact c5), e2]
            obtain ⟨x3, x4, x5, s3, b1, b2, b3, b4, b5⟩ := q_147 (h := h) (m := m) hB h7 h4 w hw S J hJ 0
            exact ⟨0, x3, x4, x5, s3, b1, b2, b3, b4, b5, fun _ => rfl⟩
theorem upd_o (f : Nat → Int32) (i j : Nat) (x : Int32) (h : j ≠ i) : upd f i x j = f j := if_neg h
theorem upd_e (f : Nat → Int32) (i : Nat) (x : Int32) : upd f i x i = x := if_pos rfl
theorem q_43 (hB : BB B N) (h7 : s 7 0 = nI N) (h4 : ∀ j, j < N → s 4 j = nI (B j)) (w kk p : Nat) (hw : w < 11) (hk : kk < 60) (S : SN B N s s' (0, p) c (nI kk)) : ∃ s'' c', f_X13_readClause_b43 m (nI w) (pm h m s') = some ((), pm h m s'') ∧ SN B N s s'' (rdF B N (csh w) (tE B N p)) c' (nI (kk + 1)) ∧ (∀ j, j < 6 * kk → c' j = c j) ∧ ((rdF B N (csh w) (tE B N p)).1 = 0 → EN c' kk (w, (rdl B N (csh w) (tE B N p)).2)) := by
  obtain ⟨a, y, v, b, e, o, q, rfl, g1, g2, g3, g4⟩ := S
  obtain ⟨rfl, rfl, rfl, rfl, rfl, hv⟩ := g1 rfl
  have hb := tk_b hB p g4
  obtain ⟨v', k1, k2⟩ := q_step (h := h) (m := m) (y := nI (tY B N p)) (v := v) (b := nI (tS B N p)) (e := nI (tE B N p)) (o := 0) (q := q) (c := c) (k := nI kk) hB h7 h4 (tE B N p) hb.2.2.1
  have S1 : SN B N s (rq s (nI (tE B N (tE B N p))) (nI (tY B N (tE B N p))) v' (nI (tS B N (tE B N p))) (nI (tE B N (tE B N p))) 0 q c (nI kk)) (0, tE B N p) c (nI kk) := ⟨_, _, _, _, _, _, _, rfl, fun _ => ⟨rfl, rfl, rfl, rfl, rfl, k2⟩, fun g => absurd rfl g, Nat.zero_le _, hb.2.2.1⟩
  obtain ⟨s2, e2, S2⟩ := q_w (h := h) (m := m) S1 (6 * kk) (by omega) (nI w)
  obtain ⟨x1, s3, a1, a2, a3⟩ := q_opn (h := h) (m := m) hB h7 h4 112 (by decide) S2
  obtain ⟨s4, e4, S4⟩ := q_w (h := h) (m := m) a2 (6 * kk + 1) (by omega) x1
  obtain ⟨x2, x3, x4, x5, s5, b1, b2, b3, b4, b5, b6⟩ := q_two (h := h) (m := m) hB h7 h4 w hw S4 (6 * kk) (by omega)
  obtain ⟨hs0, hs1, hs2, hs3, hs4⟩ := ch_e w hw
  have hlen := (csh_b w hw).2.1
  have key := st_ok B N (csh w) 5 (tE B N p) (fun j => if j = 0 then x1 else if j = 1 then x2 else if j = 2 then x3 else if j = 3 then x4 else x5) (fun j => if j = 0 then (0, tE B N p) else if j = 1 then opS B N (some 112) (0, tE B N p) else if j = 2 then opS B N (ch2 w) (opS B N (some 112) (0, tE B N p)) else if j = 3 then opS B N (ch3 w) (opS B N (ch2 w) (opS B N (some 112) (0, tE B N p))) else if j = 4 then opS B N (ch4 w) (opS B N (ch3 w) (opS B N (ch2 w) (opS B N (some 112) (0, tE B N p)))) else opS B N (ch5 w) (opS B N (ch4 w) (opS B N (ch3 w) (opS B N (ch2 w) (opS B N (some 112) (0, tE B N p)))))) hlen rfl (by
    intro j hj
    have : j = 0 ∨ j = 1 ∨ j = 2 ∨ j = 3 ∨ j = 4 := by omega
    rcases this with rfl | rfl | rfl | rfl | rfl
    · rw [hs0]; exact ⟨rfl, a3⟩
    · rw [hs1]; exact ⟨rfl, b6⟩
    · rw [hs2]; exact ⟨rfl, b5⟩
    · rw [hs3]; exact ⟨rfl, b4⟩
    · rw [hs4]; exact ⟨rfl, b3⟩)
  obtain ⟨key1, key2⟩ := key
  have key1' : opS B N (ch5 w) (opS B N (ch4 w) (opS B N (ch3 w) (opS B N (ch2 w) (opS B N (some 112) (0, tE B N p))))) = (rdl B N (csh w) (tE B N p)).1 := key1
  rw [key1'] at b2
  refine ⟨s5, _, ?_, by rw [← show nI kk + (1 : Int32) = nI (kk + 1) from al_add kk 1]; exact b2, fun j hj => ?_, fun hg => ?_⟩
  · unfold f_X13_readClause_b43
    rw [q_g12, if_pos rfl, q_c, k1, bd_some, q_g16, pm_gR15, show (6 : Int32) * nI kk = nI (6 * kk) from al_mul 6 kk, e2, pm_gR15, pm_cV, show f_X13_readNumber m 15 (pm h m s2) = _ from a1, bd_some, show nI (6 * kk) + (1 : Int32) = nI (6 * kk + 1) from al_add _ 1, e4, pm_gR15]
    exact b1
  · rw [upd_o _ _ _ _ (by omega), upd_o _ _ _ _ (by omega), upd_o _ _ _ _ (by omega), upd_o _ _ _ _ (by omega), upd_o _ _ _ _ (by omega), upd_o _ _ _ _ (by omega)]
  · have hg5 : (rdl B N (csh w) (tE B N p)).1.1 = 0 := by
      by_cases g : (rdl B N (csh w) (tE B N p)).1.1 = 0
      · exact g
      · unfold rdF at hg; rw [if_neg g] at hg; exact hg
    have kv := key2 (by rw [key1]; exact hg5)
    refine ⟨?_, fun j hj => ?_⟩
    · rw [upd_o _ _ _ _ (by omega), upd_o _ _ _ _ (by omega), upd_o _ _ _ _ (by omega), upd_o _ _ _ _ (by omega), upd_o _ _ _ _ (by omega), upd_e]
    · have := kv j hj
      have hj' : j = 0 ∨ j = 1 ∨ j = 2 ∨ j = 3 ∨ j = 4 := by omega
      rcases hj' with rfl | rfl | rfl | rfl | rfl
      · rw [upd_o _ _ _ _ (by omega), upd_o _ _ _ _ (by omega), upd_o _ _ _ _ (by omega), upd_o _ _ _ _ (by omega)]; exact (upd_e _ _ _).trans this
      · rw [upd_o _ _ _ _ (by omega), upd_o _ _ _ _ (by omega), upd_o _ _ _ _ (by omega)]; exact (upd_e _ _ _).trans this
      · rw [upd_o _ _ _ _ (by omega), upd_o _ _ _ _ (by omega)]; exact (upd_e _ _ _).trans this
      · rw [upd_o _ _ _ _ (by omega)]; exact (upd_e _ _ _).trans this
      · exact (upd_e _ _ _).trans this
def clS (B : Nat → Nat) (N kk p : Nat) : Nat × Nat := if whW B N p = 11 then (1, tS B N p) else if kk = 60 then (2, tS B N p) else rdF B N (csh (whW B N p)) (tE B N p)
theorem q_clause (hB : BB B N) (h7 : s 7 0 = nI N) (h4 : ∀ j, j < N → s 4 j = nI (B j)) (kk p : Nat) (hk : kk ≤ 60) (S : SN B N s s' (0, p) c (nI kk)) : ∃ s'' c' k', f_X13_readClause m (pm h m s') = some ((), pm h m s'') ∧ SN B N s s'' (clS B N kk p) c' k' ∧ ((clS B N kk p).1 = 0 → k' = nI (kk + 1) ∧ (∀ j, j < 6 * kk → c' j = c j) ∧ EN c' kk (whW B N p, (rdl B N (csh (whW B N p)) (tE B N p)).2)) := by
  have S0 := S
  obtain ⟨a, y, v, b, e, o, q, rfl, g1, g2, g3, g4⟩ := S
  obtain ⟨rfl, rfl, rfl, rfl, rfl, hv⟩ := g1 rfl
  have hb := tk_b hB p g4
  have hw := whW_le B N p
  have bad43 : ∀ (x : Nat) (x1 a y v b e q : Int32), x ≠ 0 → x ≤ 2 → f_X13_readClause_b43 m x1 (pm h m (rq s a y v b e (nI x) q c (nI kk))) = some ((), pm h m (rq s a y v b e (nI x) q c (nI kk))) := by
    intro x x1 a y v b e q hx hx2
    unfold f_X13_readClause_b43
    rw [q_g12, if_neg (nz hx hx2)]
  unfold f_X13_readClause clS
  rw [q_c, q_which hB h4 p g4, bd_some, q_g12, if_neg (not_not_intro rfl)]
  by_cases c1 : whW B N p = 11
  · rw [if_pos c1, if_pos c1, if_neg (not_not_intro (show nm1 = -1 from rfl)), q_c, show f_X13_wrong m 1 _ = _ from q_wrong0 (nI 1), bd_some]
    unfold f_X13_readClause_b22
    rw [q_g12, if_pos (nz (x := 1) (by decide) (by decide)), bad43 1 _ _ _ _ _ _ _ (by decide) (by decide)]
    exact ⟨_, _, _, rfl, SN_bad 1 _ (by decide) (by decide) (by omega), fun g => by cases g⟩
  · have e60 : (nI kk = 60) = (kk = 60) := al_eq (b := 60) (by omega) (by omega)
    rw [if_neg c1, if_neg c1, if_pos (show ¬ nI (whW B N p) = -1 from fun g => absurd (congrArg (fun w => decide (w < 0)) g) (by rw [show decide (nI (whW B N p) < 0) = false from decide_eq_false (by rw [al_neg (by omega)]; exact id)]; decide))]
    unfold f_X13_readClause_b22
    rw [q_g12, if_neg (not_not_intro rfl), q_g16]
    by_cases c2 : kk = 60
    · rw [if_neg (not_not_intro (by rw [e60]; exact c2)), if_pos c2, q_c, show f_X13_wrong m 2 _ = _ from q_wrong0 (nI 2), bd_some, bad43 2 _ _ _ _ _ _ _ (by decide) (by decide)]
      exact ⟨_, _, _, rfl, SN_bad 2 _ (by decide) (by decide) (by omega), fun g => by cases g⟩
    · rw [if_pos (by rw [e60]; exact c2), if_neg c2]
      obtain ⟨s2, c2', k1, k2, k3, k4⟩ := q_43 (h := h) (m := m) hB h7 h4 (whW B N p) kk p (by omega) (by omega) S0
      exact ⟨s2, c2', _, k1, k2, fun g => ⟨rfl, k3, k4 g⟩⟩
theorem q_rd_l (hB : BB B N) (h7 : s 7 0 = nI N) (h4 : ∀ j, j < N → s 4 j = nI (B j)) (K : Nat → jh → Option (Int32 × jh)) (L : Nat → Nat → jh → Option (Int32 × jh)) (hL : ∀ f, L (f + 1) = f_X13_spaces_h57 K (L f)) : ∀ f' kk p g (c : Nat → Int32) (s' : ms), kk + f' = 61 → 1 ≤ f' → f' + 2 ≤ g → SN B N s s' (0, p) c (nI kk) → ∃ s'' c' k' r', L g m (pm h m s') = K m (pm h m s'') ∧ SN B N s s'' r' c' k' ∧ r'.1 = (prl B N f' kk p).1 ∧ (r'.1 ≠ 0 → r'.2 = (prl B N f' kk p).2.1) ∧ (r'.1 = 0 → k' = nI (kk + (prl B N f' kk p).2.2.length) ∧ kk + (prl B N f' kk p).2.2.length ≤ 60 ∧ (∀ j, j < 6 * kk → c' j = c j) ∧ ∀ i, i < (prl B N f' kk p).2.2.length → EN c' (kk + i) ((prl B N f' kk p).2.2.getD i (0, []))) := by
  intro f'
  induction f' with
  | zero => intro kk p g c s' h1 h2; omega
  | succ f' ih =>
    intro kk p g c s' h1 h2 h3 S
    obtain ⟨g, rfl⟩ : ∃ g', g = g' + 1 + 1 := ⟨g - 2, by omega⟩
    have S0 := S
    obtain ⟨a, y, v, b, e, o, q, rfl, g1, g2, g3, g4⟩ := S
    obtain ⟨rfl, rfl, rfl, rfl, rfl, hv⟩ := g1 rfl
    have hb := tk_b hB p g4
    have e0 : (nI (tY B N p) = 0) = (tY B N p = 0) := al_eq (b := 0) (by omega) (by omega)
    rw [hL, prl]
    unfold f_X13_spaces_h57
    rw [q_g12, if_neg (not_not_intro rfl), q_g8]
    by_cases c1 : tY B N p = 0
    · rw [if_pos (by rw [e0]; exact c1), if_pos c1]
      exact ⟨_, _, _, _, rfl, S0, rfl, fun g => absurd rfl g, fun _ => ⟨rfl, by show kk + 0 ≤ 60; omega, fun _ _ => rfl, fun i hi => absurd hi (Nat.not_lt_zero i)⟩⟩
    · rw [if_neg (by rw [e0]; exact c1), if_neg c1]
      obtain ⟨s2, c2, k2, d1, d2, d3⟩ := q_clause (h := h) (m := m) hB h7 h4 kk p (by omega) S0
      rw [q_c, d1, bd_some]
      unfold clS at d2 d3
      have bad : ∀ (r : Nat × Nat), r.1 ≠ 0 → SN B N s s2 r c2 k2 → L (g + 1) m (pm h m s2) = K m (pm h m s2) := by
        intro r hr S2
        obtain ⟨a, y, v, b, e, o, q, rfl, m1, m2, m3, m4⟩ := S2
        obtain ⟨rfl, rfl⟩ := m2 hr
        rw [hL]
        unfold f_X13_spaces_h57
        rw [q_g12, if_pos (nz hr m3)]
      by_cases w1 : whW B N p = 11
      · rw [if_pos w1] at d2 d3 ⊢
        exact ⟨s2, c2, k2, _, bad _ (by show 1 ≠ 0; decide) d2, d2, rfl, fun _ => rfl, fun g => by cases g⟩
      · rw [if_neg w1] at d2 d3 ⊢
        by_cases w2 : kk = 60
        · rw [if_pos w2] at d2 d3 ⊢
          exact ⟨s2, c2, k2, _, bad _ (by show 2 ≠ 0; decide) d2, d2, rfl, fun _ => rfl, fun g => by cases g⟩
        · rw [if_neg w2] at d2 d3 ⊢
          by_cases w3 : (rdF B N (csh (whW B N p)) (tE B N p)).1 = 0
          · rw [if_pos w3]
            obtain ⟨m1, m2, m3⟩ := d3 w3
            have d2' : SN B N s s2 (0, (rdF B N (csh (whW B N p)) (tE B N p)).2) c2 (nI (kk + 1)) := by
              rw [m1] at d2
              rw [← w3]
              exact d2
            obtain ⟨s4, c4, k4, r4, n1, n2, n3, n4, n5⟩ := ih (kk + 1) _ (g + 1) c2 s2 (by omega) (by omega) (by omega) d2'
            refine ⟨s4, c4, k4, r4, n1, n2, n3, n4, fun hr => ?_⟩
            obtain ⟨t1, t2, t3, t4⟩ := n5 hr
            dsimp only
            rw [List.length_cons]
            refine ⟨?_, by omega, fun j hj => by rw [t3 j (by omega), m2 j hj], fun i hi => ?_⟩
            · rw [t1]; congr 1; omega
            · cases i with
              | zero =>
                rw [Nat.add_zero]
                show EN c4 kk (whW B N p, _)
                refine ⟨?_, fun j hj => ?_⟩
                · rw [t3 _ (by omega)]; exact m3.1
                · rw [t3 _ (by omega)]; exact m3.2 j hj
              | succ i =>
                have := t4 i (by omega)
                rw [show kk + (i + 1) = kk + 1 + i by omega]
                exact this
          · rw [if_neg w3]
            exact ⟨s2, c2, k2, _, bad _ w3 d2, d2, rfl, fun _ => rfl, fun g => absurd g w3⟩
end RC4
