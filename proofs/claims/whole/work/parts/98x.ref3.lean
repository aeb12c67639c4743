/-! the reference's reader: clauses -/
def opS (B : Nat → Nat) (N : Nat) (ch : Option Nat) (r : Nat × Nat) : Nat × Nat := match ch with
  | none => r
  | some c => if r.1 = 0 then (if opF B N c r.2 = 0 then (0, tE B N r.2) else (opF B N c r.2, tS B N r.2)) else r
def opX (B : Nat → Nat) (N : Nat) (ch : Option Nat) (r : Nat × Nat) : Int32 := match ch with
  | none => 0
  | some c => opV B N c r.2
def eoS (B : Nat → Nat) (N : Nat) (r : Nat × Nat) : Nat × Nat := if r.1 = 0 then (if tY B N r.2 = 3 then (0, tE B N r.2) else (1, tS B N r.2)) else r
theorem opS_bad (B : Nat → Nat) (N : Nat) (ch : Option Nat) (r : Nat × Nat) (h : r.1 ≠ 0) : opS B N ch r = r := by
  cases ch with
  | none => rfl
  | some c => exact if_neg h
theorem st_ok (B : Nat → Nat) (N : Nat) : ∀ (cs : List Nat) (n p : Nat) (xs : Nat → Int32) (R : Nat → Nat × Nat), cs.length ≤ n → R 0 = (0, p) → (∀ j, j < n → R (j + 1) = opS B N cs[j]? (R j) ∧ ((R (j + 1)).1 = 0 → xs j = opX B N cs[j]? (R j))) → R n = (rdl B N cs p).1 ∧ ((R n).1 = 0 → ∀ j, j < n → xs j = (rdl B N cs p).2.getD j 0) := by
  intro cs
  induction cs with
  | nil =>
    intro n p xs R hl h0 h
    have hc : ∀ j, j ≤ n → R j = (0, p) := by
      intro j
      induction j with
      | zero => intro _; exact h0
      | succ j ih => intro hj; rw [(h j (by omega)).1]; exact ih (by omega)
    refine ⟨hc n (Nat.le_refl _), fun _ j hj => ?_⟩
    exact (h j hj).2 (by rw [hc (j + 1) (by omega)])
  | cons ch cs ih =>
    intro n p xs R hl h0 h
    have hl' : cs.length + 1 ≤ n := hl
    obtain ⟨n, rfl⟩ : ∃ n', n = n' + 1 := ⟨n - 1, by omega⟩
    have h1 := h 0 (by omega)
    have e1 : R 1 = if opF B N ch p = 0 then (0, tE B N p) else (opF B N ch p, tS B N p) := by rw [h1.1, h0]; rfl
    rw [rdl]
    by_cases c0 : opF B N ch p = 0
    · rw [if_pos c0] at e1 ⊢
      obtain ⟨a1, a2⟩ := ih n (tE B N p) (fun j => xs (j + 1)) (fun j => R (j + 1)) (by omega) e1 (fun j hj => h (j + 1) (by omega))
      refine ⟨a1, fun g j hj => ?_⟩
      cases j with
      | zero =>
        rw [h1.2 (by rw [e1]), h0]; rfl
      | succ j => exact a2 g j (by omega)
    · rw [if_neg c0] at e1 ⊢
      have hc : ∀ j, j ≤ n → R (j + 1) = (opF B N ch p, tS B N p) := by
        intro j
        induction j with
        | zero => intro _; exact e1
        | succ j ih2 =>
          intro hj
          rw [(h (j + 1) (by omega)).1, opS_bad _ _ _ _ (by rw [ih2 (by omega)]; exact c0)]
          exact ih2 (by omega)
      rw [hc n (Nat.le_refl _)]
      exact ⟨rfl, fun g => absurd g c0⟩
def ch2 (w : Nat) : Option Nat := if w = 4 ∨ w = 6 then some 115 else if w = 7 ∨ w = 9 then some 112 else if w = 5 then some 110 else none
def ch3 (w : Nat) : Option Nat := if w = 7 then some 107 else if w = 4 ∨ w = 6 then some 110 else none
def ch4 (w : Nat) : Option Nat := if w = 4 then some 110 else none
def ch5 (w : Nat) : Option Nat := if w = 4 then some 109 else none
theorem ch_e (w : Nat) (hw : w < 11) : (csh w)[0]? = some 112 ∧ (csh w)[1]? = ch2 w ∧ (csh w)[2]? = ch3 w ∧ (csh w)[3]? = ch4 w ∧ (csh w)[4]? = ch5 w := by
  obtain ⟨c0, c1, c2, c3, c8, c10⟩ := csh_1
  have hw' : w = 0 ∨ w = 1 ∨ w = 2 ∨ w = 3 ∨ w = 4 ∨ w = 5 ∨ w = 6 ∨ w = 7 ∨ w = 8 ∨ w = 9 ∨ w = 10 := by omega
  rcases hw' with rfl | rfl | rfl | rfl | rfl | rfl | rfl | rfl | rfl | rfl | rfl
  · rw [c0]; decide
  · rw [c1]; decide
  · rw [c2]; decide
  · rw [c3]; decide
  · rw [csh_4]; decide
  · rw [csh_5]; decide
  · rw [csh_6]; decide
  · rw [csh_7]; decide
  · rw [c8]; decide
  · rw [csh_9]; decide
  · rw [c10]; decide
section RCL
variable {h : jh} {m : Nat} {s : ms} {k : Int32} {c : Nat → Int32} {B : Nat → Nat} {N : Nat} {s' : ms} {r : Nat × Nat}
theorem q_opn (hB : BB B N) (h7 : s 7 0 = nI N) (h4 : ∀ j, j < N → s 4 j = nI (B j)) (ch : Nat) (hc : ch ≠ 107) (S : SN B N s s' r c k) : ∃ x s'', f_X13_readNumber m (nI (gtt ch)) (pm h m s') = some (x, pm h m s'') ∧ SN B N s s'' (opS B N (some ch) r) c k ∧ ((opS B N (some ch) r).1 = 0 → x = opX B N (some ch) r) := by
  have hg : gtt ch < 100 := by unfold gtt; repeat' split
                               all_goals omega
  have e1 : opF B N ch r.2 = nfl B N (gtt ch) r.2 := if_neg hc
  have e2 : opV B N ch r.2 = nI (rdV B N r.2) := if_neg hc
  have e3 : opS B N (some ch) r = nmS B N (gtt ch) r := by
    show (if r.1 = 0 then (if opF B N ch r.2 = 0 then (0, tE B N r.2) else (opF B N ch r.2, tS B N r.2)) else r) = _
    rw [e1]; rfl
  rw [e3]
  show ∃ x s'', _ ∧ _ ∧ (_ → x = opV B N ch r.2)
  rw [e2]
  exact q_num hB h7 h4 (gtt ch) hg S
theorem q_opk (hB : BB B N) (h7 : s 7 0 = nI N) (h4 : ∀ j, j < N → s 4 j = nI (B j)) (S : SN B N s s' r c k) : ∃ x s'', f_X13_readKind m (pm h m s') = some (x, pm h m s'') ∧ SN B N s s'' (opS B N (some 107) r) c k ∧ ((opS B N (some 107) r).1 = 0 → x = opX B N (some 107) r) := q_kind hB h7 h4 S
theorem q_w (S : SN B N s s' r c k) (j : Nat) (hj : j < 360) (x : Int32) : ∃ s'', (∀ {β : Type} (K : jh → Option β), sI (pm h m s') (m + 5) (nI j) x K = K (pm h m s'')) ∧ SN B N s s'' r (upd c j x) k := by
  obtain ⟨a, y, v, b, e, o, q, rfl, g⟩ := S
  exact ⟨_, fun K => q_s15 j hj x K, ⟨a, y, v, b, e, o, q, rfl, g⟩⟩
theorem q_267 (S : SN B N s s' r c k) : ∃ s'', f_X13_readClause_b267 m (pm h m s') = some ((), pm h m s'') ∧ SN B N s s'' r c (k + 1) := by
  obtain ⟨a, y, v, b, e, o, q, rfl, g⟩ := S
  unfold f_X13_readClause_b267
  rw [q_g16, q_p16]
  exact ⟨_, rfl, ⟨a, y, v, b, e, o, q, rfl, g⟩⟩
theorem q_235 (hB : BB B N) (h7 : s 7 0 = nI N) (h4 : ∀ j, j < N → s 4 j = nI (B j)) (S : SN B N s s' r c k) (j : Nat) (hj : j < 360) (x : Int32) : ∃ s'', f_X13_readClause_b235 m x (nI j) (m + 5) (pm h m s') = some ((), pm h m s'') ∧ SN B N s s'' (eoS B N r) (upd c j x) (k + 1) := by
  obtain ⟨s1, e1, S1⟩ := q_w (h := h) (m := m) S j hj x
  unfold f_X13_readClause_b235
  rw [e1]
  obtain ⟨a, y, v, b, e, o, q, rfl, g1, g2, g3, g4⟩ := S1
  have hb := tk_b hB r.2 g4
  unfold eoS
  rw [q_g12]
  by_cases c0 : r.1 = 0
  · obtain ⟨rfl, rfl, rfl, rfl, rfl, hv⟩ := g1 c0
    have e3 : (nI (tY B N r.2) = 3) = (tY B N r.2 = 3) := al_eq (b := 3) (by omega) (by omega)
    rw [if_neg (not_not_intro rfl), q_g8, if_pos c0]
    by_cases c3 : tY B N r.2 = 3
    · rw [if_pos (by rw [e3]; exact c3), if_pos c3]
      unfold f_X13_readClause_b256
      obtain ⟨v', k1, k2⟩ := q_step (h := h) (m := m) (y := nI (tY B N r.2)) (v := v) (b := nI (tS B N r.2)) (e := nI (tE B N r.2)) (o := 0) (q := q) (c := upd c j x) (k := k) hB h7 h4 (tE B N r.2) hb.2.2.1
      rw [q_g12, if_neg (not_not_intro rfl), q_c, k1, bd_some]
      exact q_267 ⟨_, _, _, _, _, _, _, rfl, fun _ => ⟨rfl, rfl, rfl, rfl, rfl, k2⟩, fun g => absurd rfl g, Nat.zero_le _, hb.2.2.1⟩
    · rw [if_neg (by rw [e3]; exact c3), if_neg c3, q_c, q_wrong0, bd_some]
      unfold f_X13_readClause_b256
      rw [q_g12, if_pos (show ¬ (1 : Int32) = 0 by decide)]
      exact q_267 (SN_bad 1 (tS B N r.2) (by decide) (by decide) (by omega))
  · obtain ⟨rfl, rfl⟩ := g2 c0
    rw [if_pos (nz c0 g3), if_neg c0]
    unfold f_X13_readClause_b256
    rw [q_g12, if_pos (nz c0 g3)]
    exact q_267 ⟨a, y, v, b, e, _, _, rfl, g1, g2, g3, g4⟩
theorem x_ne {w : Nat} (hw : w < 11) (j : Nat) (hj : j < 11) : (nI w = nI j) = (w = j) := al_eq (by omega) (by omega)
theorem q_212 (hB : BB B N) (h7 : s 7 0 = nI N) (h4 : ∀ j, j < N → s 4 j = nI (B j)) (w : Nat) (hw : w < 11) (S : SN B N s s' r c k) (J : Nat) (hJ : J + 5 < 360) (x : Int32) : ∃ x5 s'', f_X13_readClause_b212 m (nI w) (nI J) x (nI (J + 4)) (m + 5) (pm h m s') = some ((), pm h m s'') ∧ SN B N s s'' (eoS B N (opS B N (ch5 w) r)) (upd (upd c (J + 4) x) (J + 5) x5) (k + 1) ∧ ((opS B N (ch5 w) r).1 = 0 → x5 = opX B N (ch5 w) r) := by
  obtain ⟨s1, e1, S1⟩ := q_w (h := h) (m := m) S (J + 4) (by omega) x
  unfold f_X13_readClause_b212 ch5
  rw [e1, pm_gR15, show nI J + (5 : Int32) = nI (J + 5) from al_add J 5]
  by_cases c4 : w = 4
  · rw [if_neg (not_not_intro (show nI w = 4 by rw [c4]; rfl)), if_pos c4, pm_cV]
    obtain ⟨x5, s2, a1, a2, a3⟩ := q_opn (h := h) (m := m) hB h7 h4 109 (by decide) S1
    rw [show f_X13_readNumber m 99 (pm h m s1) = _ from a1, bd_some]
    obtain ⟨s3, b1, b2⟩ := q_235 (h := h) (m := m) hB h7 h4 a2 (J + 5) (by omega) x5
    exact ⟨x5, s3, b1, b2, a3⟩
  · rw [if_pos (show ¬ nI w = 4 by rw [show (4 : Int32) = nI 4 from rfl, x_ne hw 4 (by decide)]; exact c4), if_neg c4]
    obtain ⟨s3, b1, b2⟩ := q_235 (h := h) (m := m) hB h7 h4 S1 (J + 5) (by omega) 0
    exact ⟨0, s3, b1, b2, fun _ => rfl⟩
theorem q_189 (hB : BB B N) (h7 : s 7 0 = nI N) (h4 : ∀ j, j < N → s 4 j = nI (B j)) (w : Nat) (hw : w < 11) (S : SN B N s s' r c k) (J : Nat) (hJ : J + 5 < 360) (x : Int32) : ∃ x4 x5 s'', f_X13_readClause_b189 m (nI w) (nI J) x (nI (J + 3)) (m + 5) (pm h m s') = some ((), pm h m s'') ∧ SN B N s s'' (eoS B N (opS B N (ch5 w) (opS B N (ch4 w) r))) (upd (upd (upd c (J + 3) x) (J + 4) x4) (J + 5) x5) (k + 1) ∧ ((opS B N (ch5 w) (opS B N (ch4 w) r)).1 = 0 → x5 = opX B N (ch5 w) (opS B N (ch4 w) r)) ∧ ((opS B N (ch4 w) r).1 = 0 → x4 = opX B N (ch4 w) r) := by
  obtain ⟨s1, e1, S1⟩ := q_w (h := h) (m := m) S (J + 3) (by omega) x
  unfold f_X13_readClause_b189
  rw [e1, pm_gR15, show nI J + (4 : Int32) = nI (J + 4) from al_add J 4]
  by_cases c4 : w = 4
  · have e4 : ch4 w = some 110 := if_pos c4
    rw [if_neg (not_not_intro (show nI w = 4 by rw [c4]; rfl)), pm_cV, e4]
    obtain ⟨x4, s2, a1, a2, a3⟩ := q_opn (h := h) (m := m) hB h7 h4 110 (by decide) S1
    rw [show f_X13_readNumber m 99 (pm h m s1) = _ from a1, bd_some]
    obtain ⟨x5, s3, b1, b2, b3⟩ := q_212 (h := h) (m := m) hB h7 h4 w hw a2 J hJ x4
    exact ⟨x4, x5, s3, b1, b2, b3, a3⟩
  · have e4 : ch4 w = none := if_neg c4
    rw [if_pos (show ¬ nI w = 4 by rw [show (4 : Int32) = nI 4 from rfl, x_ne hw 4 (by decide)]; exact c4), e4]
    obtain ⟨x5, s3, b1, b2, b3⟩ := q_212 (h := h) (m := m) hB h7 h4 w hw S1 J hJ 0
    exact ⟨0, x5, s3, b1, b2, b3, fun _ => rfl⟩
theorem q_147 (hB : BB B N) (h7 : s 7 0 = nI N) (h4 : ∀ j, j < N → s 4 j = nI (B j)) (w : Nat) (hw : w < 11) (S : SN B N s s' r c k) (J : Nat) (hJ : J + 5 < 360) (x : Int32) : ∃ x3 x4 x5 s'', f_X13_readClause_b147 m (nI w) (nI J) x (nI (J + 2)) (m + 5) (pm h m s') = some ((), pm h m s'') ∧ SN B N s s'' (eoS B N (opS B N (ch5 w) (opS B N (ch4 w) (opS B N (ch3 w) r)))) (upd (upd (upd (upd c (J + 2) x) (J + 3) x3) (J + 4) x4) (J + 5) x5) (k + 1) ∧ ((opS B N (ch5 w) (opS B N (ch4 w) (opS B N (ch3 w) r))).1 = 0 → x5 = opX B N (ch5 w) (opS B N (ch4 w) (opS B N (ch3 w) r))) ∧ ((opS B N (ch4 w) (opS B N (ch3 w) r)).1 = 0 → x4 = opX B N (ch4 w) (opS B N (ch3 w) r)) ∧ ((opS B N (ch3 w) r).1 = 0 → x3 = opX B N (ch3 w) r) := by
  obtain ⟨s1, e1, S1⟩ := q_w (h := h) (m := m) S (J + 2) (by omega) x
  unfold f_X13_readClause_b147
  rw [e1, pm_gR15, show nI J + (3 : Int32) = nI (J + 3) from al_add J 3]
  have b179 : ∀ (w : Nat), w < 11 → ∃ x3 x4 x5 s'', f_X13_readClause_b179 m (nI w) (nI J) (nI (J + 3)) (m + 5) (pm h m s1) = some ((), pm h m s'') ∧ SN B N s s'' (eoS B N (opS B N (ch5 w) (opS B N (ch4 w) (opS B N (some 110) r)))) (upd (upd (upd (upd c (J + 2) x) (J + 3) x3) (J + 4) x4) (J + 5) x5) (k + 1) ∧ ((opS B N (ch5 w) (opS B N (ch4 w) (opS B N (some 110) r))).1 = 0 → x5 = opX B N (ch5 w) (opS B N (ch4 w) (opS B N (some 110) r))) ∧ ((opS B N (ch4 w) (opS B N (some 110) r)).1 = 0 → x4 = opX B N (ch4 w) (opS B N (some 110) r)) ∧ ((opS B N (some 110) r).1 = 0 → x3 = opX B N (some 110) r) := by
    intro w hw
    unfold f_X13_readClause_b179
    obtain ⟨x3, s2, a1, a2, a3⟩ := q_opn (h := h) (m := m) hB h7 h4 110 (by decide) S1
    rw [pm_cV, show f_X13_readNumber m 99 (pm h m s1) = _ from a1, bd_some]
    obtain ⟨x4, x5, s3, b1, b2, b3, b4⟩ := q_189 (h := h) (m := m) hB h7 h4 w hw a2 J hJ x3
    exact ⟨x3, x4, x5, s3, b1, b2, b3, b4, a3⟩
  by_cases c7 : w = 7
  · have e3 : ch3 w = some 107 := if_pos c7
    rw [if_neg (not_not_intro (show nI w = 7 by rw [c7]; rfl)), pm_cV, e3]
    obtain ⟨x3, s2, a1, a2, a3⟩ := q_opk (h := h) (m := m) hB h7 h4 S1
    rw [a1, bd_some]
    obtain ⟨x4, x5, s3, b1, b2, b3, b4⟩ := q_189 (h := h) (m := m) hB h7 h4 w hw a2 J hJ x3
    exact ⟨x3, x4, x5, s3, b1, b2, b3, b4, a3⟩
  · rw [if_pos (show ¬ nI w = 7 by rw [show (7 : Int32) = nI 7 from rfl, x_ne hw 7 (by decide)]; exact c7)]
    by_cases c4 : w = 4
    · have e3 : ch3 w = some 110 := by unfold ch3; rw [if_neg c7, if_pos (Or.inl c4)]
      rw [if_pos (show nI w = 4 by rw [c4]; rfl), e3]
      exact b179 w hw
    · rw [if_neg (show ¬ nI w = 4 by rw [show (4 : Int32) = nI 4 from rfl, x_ne hw 4 (by decide)]; exact c4)]
      by_cases c6 : w = 6
      · have e3 : ch3 w = some 110 := by unfold ch3; rw [if_neg c7, if_pos (Or.inr c6)]
        rw [if_neg (not_not_intro (show nI w = 6 by rw [c6]; rfl)), e3]
        exact b179 w hw
      · have e3 : ch3 w = none := by unfold ch3; rw [if_neg c7, if_neg (by omega)]
        rw [if_pos (show ¬ nI w = 6 by rw [show (6 : Int32) = nI 6 from rfl, x_ne hw 6 (by decide)]; exact c6), e3]
        obtain ⟨x4, x5, s3, b1, b2, b3, b4⟩ := q_189 (h := h) (m := m) hB h7 h4 w hw S1 J hJ 0
        exact ⟨0, x4, x5, s3, b1, b2, b3, b4, fun _ => rfl⟩
end RCL
