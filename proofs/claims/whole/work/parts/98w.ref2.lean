/-! the reference's reader: tokens -/
section RTK
variable {h : jh} {m : Nat} {s : ms} {a y v b e o q k : Int32} {c : Nat → Int32} {B : Nat → Nat} {N : Nat}
def VT (B : Nat → Nat) (N p : Nat) (v : Int32) : Prop := tY B N p = 2 → tE B N p - tS B N p ≤ 2 → v = nI (rdV B N p)
theorem q_step (hB : BB B N) (h7 : s 7 0 = nI N) (h4 : ∀ j, j < N → s 4 j = nI (B j)) (p : Nat) (hp : p ≤ N) : ∃ v', f_X13_stepOn m (pm h m (rq s (nI p) y v b e o q c k)) = some ((), pm h m (rq s (nI (tE B N p)) (nI (tY B N p)) v' (nI (tS B N p)) (nI (tE B N p)) o q c k)) ∧ VT B N p v' := by
  obtain ⟨f0, hf0⟩ := jfu_s
  have hN := hB.1
  have hb := tk_b hB p hp
  have hy := srt_le (B (tS B N p))
  unfold f_X13_stepOn
  have e0 : ∀ K, jlp1 (f_X13_stepOn_h0 K) jfu m (pm h m (rq s (nI p) y v b e o q c k)) = K m (pm h m (rq s (nI (tS B N p)) y v b e o q c k)) := fun K => q_skip_l (h := h) (m := m) (y := y) (v := v) (b := b) (e := e) (o := o) (q := q) (c := c) (k := k) hB h7 h4 K (jlp1 (f_X13_stepOn_h0 K)) (fun _ => rfl) (N - p) p jfu (by omega) (by omega)
  rw [e0]
  rw [q_g6, q_p10, q_g6, q_c, q_at hB h7 h4 (tS B N p) (by omega), bd_some]
  have en : ∀ (w' y' : Int32) (t : Nat), f_X13_stepOn_b211 m (pm h m (rq s (nI t) y' w' (nI (tS B N p)) e o q c k)) = some ((), pm h m (rq s (nI t) y' w' (nI (tS B N p)) (nI t) o q c k)) := by
    intro w' y' t
    unfold f_X13_stepOn_b211
    rw [q_g6, q_p11]
  by_cases c0 : srt (B (tS B N p)) = 0
  · have ey : tY B N p = 0 := c0
    have es : tE B N p = tS B N p := by
      have : tS B N p = N := by
        by_cases g : tS B N p < N
        · have := hB.2.1 _ g
          unfold srt at c0
          rw [if_neg (by omega)] at c0
          repeat' split at c0
          all_goals omega
        · omega
      unfold tE
      rw [if_neg (by omega), this, Nat.sub_self]; rfl
    refine ⟨v, ?_, fun g => by omega⟩
    rw [if_neg (not_not_intro (by rw [show (-1 : Int32) = nm1 from rfl, bq_m hB]; exact c0)), q_p8, en, ey, es]
    rfl
  · rw [if_pos (by rw [show (-1 : Int32) = nm1 from rfl, bq_m hB]; exact c0), q_let hB, bd_some]
    by_cases c1 : srt (B (tS B N p)) = 1
    · have ey : tY B N p = 1 := c1
      have es : tE B N p = rnn B 1 (N - tS B N p) (tS B N p) := by unfold tE; rw [if_neg (by omega), ey]
      have e1 := fun K => q_let_l (h := h) (m := m) (y := y) (v := v) (b := nI (tS B N p)) (e := e) (o := o) (q := q) (c := c) (k := k) hB h7 h4 K (jlp1 (f_X13_stepOn_h76 K)) (fun _ => rfl) (N - tS B N p) (tS B N p) jfu (by omega) (by omega)
      refine ⟨v, ?_, fun g => by omega⟩
      rw [decide_eq_true c1, if_neg (show ¬ bn true = 0 by decide), e1]
      rw [q_p8, en, ← es, ey]
      rfl
    · rw [decide_eq_false c1, if_pos (show bn false = 0 by decide), q_dig hB, bd_some]
      by_cases c2 : srt (B (tS B N p)) = 2
      · have ey : tY B N p = 2 := c2
        have es : tE B N p = rnn B 2 (N - tS B N p) (tS B N p) := by unfold tE; rw [if_neg (by omega), ey]
        have e1 := fun K => q_dig_l (h := h) (m := m) (y := y) (b := nI (tS B N p)) (e := e) (o := o) (q := q) (c := c) (k := k) hB h7 h4 K (jlp1 (f_X13_stepOn_h123 K)) (fun _ => rfl) (N - tS B N p) (tS B N p) jfu 0 (by omega) (by omega) (by omega)
        refine ⟨nI (dgc B (N - tS B N p) (tS B N p) 0), ?_, fun g1 g2 => by rw [dgc_v B N p g1 g2 (tk_n hB p hp (Or.inr ey)).1]⟩
        rw [decide_eq_true c2, if_neg (show ¬ bn true = 0 by decide), q_p9, show (0 : Int32) = nI 0 from rfl, e1]
        rw [q_p8, en, ← es, ey]
        rfl
      · have hn : tS B N p < N := by
          by_cases g : tS B N p < N
          · exact g
          · exact absurd (show srt (B (tS B N p)) = 0 by rw [hB.2.2 _ (by omega)]; rfl) c0
        have hy2 : tY B N p = srt (B (tS B N p)) := rfl
        have es : tE B N p = tS B N p + 1 := by unfold tE; rw [if_pos (by omega)]
        refine ⟨v, ?_, fun g => by omega⟩
        rw [decide_eq_false c2, if_pos (show bn false = 0 by decide), q_g6, q_p6, show nI (tS B N p) + (1 : Int32) = nI (tS B N p + 1) from al_add _ 1, q_p8, en, q_p8, en, es]
        by_cases c3 : B (tS B N p) = 59
        · have ey : tY B N p = 3 := by rw [hy2, c3]; rfl
          rw [if_neg (not_not_intro (by rw [show (59 : Int32) = nI 59 from rfl, bq_e hB _ 59 (by decide)]; exact c3)), ey]; rfl
        · have ey : tY B N p = 4 := by
            rw [hy2]
            unfold srt at c0 c1 c2 ⊢
            repeat' split
            all_goals (first | rfl | simp_all)
          rw [if_pos (by rw [show (59 : Int32) = nI 59 from rfl, bq_e hB _ 59 (by decide)]; exact c3), ey]; rfl
theorem q_wrong0 (x : Int32) : f_X13_wrong m x (pm h m (rq s a y v b e 0 q c k)) = some ((), pm h m (rq s a y v b e x b c k)) := by
  unfold f_X13_wrong
  rw [q_g12, if_pos rfl, q_p12, q_g10, q_p13]
theorem q_is_l (hB : BB B N) (h4 : ∀ j, j < N → s 4 j = nI (B j)) (w st : Nat) (hw : w < 17) (hl : st + (jv_tx.getD w []).length ≤ N) (L : Nat → Nat → Nat → Int32 → Int32 → jh → Option (Int32 × jh)) (hL : ∀ f, L (f + 1) = f_X13_is_h39 (fun y27 h26 => jz y27 h26) (L f)) : ∀ r i f, i + r = (jv_tx.getD w []).length → r + 2 ≤ f → L f m w 1 (nI i) (pm h m (rq s a y v (nI st) e o q c k)) = some (bn (alls (fun i => decide (B (st + i) = (jv_tx.getD w []).getD i 0)) r i), pm h m (rq s a y v (nI st) e o q c k)) := by
  have hN := hB.1
  obtain ⟨b1, b2⟩ := tx_b w hw
  intro r
  induction r with
  | zero =>
    intro i f hi hf
    obtain ⟨f, rfl⟩ : ∃ g, f = g + 1 := ⟨f - 1, by omega⟩
    rw [hL]
    unfold f_X13_is_h39
    rw [if_neg (show ¬ (1 : Int32) = 0 by decide), tL_e hw, if_pos (show nI (jv_tx.getD w []).length ≤ nI i by rw [al_le (by omega) (by omega)]; omega), alls]
    rfl
  | succ r ih =>
    intro i f hi hf
    obtain ⟨f, rfl⟩ : ∃ g, f = g + 1 + 1 := ⟨f - 2, by omega⟩
    have hbt := hB.2.1 (st + i) (by omega)
    have ht := b2 i (by omega)
    rw [hL]
    unfold f_X13_is_h39
    rw [if_neg (show ¬ (1 : Int32) = 0 by decide), tL_e hw, if_neg (show ¬ nI (jv_tx.getD w []).length ≤ nI i by rw [al_le (by omega) (by omega)]; omega), tC_e hw (by omega) (by omega), pm_gR4, q_g10, al_add, q_t (st + i) (by omega), h4 (st + i) (by omega), show nI i + (1 : Int32) = nI (i + 1) from al_add i 1, ih (i + 1) (f + 1) (by omega) (by omega), alls]
    by_cases c1 : B (st + i) = (jv_tx.getD w []).getD i 0
    · rw [if_neg (not_not_intro (by rw [c1])), decide_eq_true c1, Bool.true_and]
    · rw [if_pos (by rw [al_eq (by omega) (by omega)]; exact fun g => c1 g.symm), decide_eq_false c1, Bool.false_and, hL]
      unfold f_X13_is_h39
      rw [if_pos rfl]
      rfl
theorem q_is (hB : BB B N) (h4 : ∀ j, j < N → s 4 j = nI (B j)) (w z st en : Nat) (hw : w < 17) (hz : z < 100) (h1 : st ≤ en) (h2 : en ≤ N) : f_X13_is m w (pm h m (rq s a (nI z) v (nI st) (nI en) 0 q c k)) = some (bn (decide (z = 1) && isWd B st en (jv_tx.getD w [])), pm h m (rq s a (nI z) v (nI st) (nI en) 0 q c k)) := by
  obtain ⟨f0, hf0⟩ := jfu_s
  have hN := hB.1
  obtain ⟨b1, b2⟩ := tx_b w hw
  have no : ∀ (L : Nat → Nat → Nat → Int32 → Int32 → jh → Option (Int32 × jh)), (∀ f, L (f + 1) = f_X13_is_h39 (fun y27 h26 => jz y27 h26) (L f)) → ∀ H, L jfu m w 0 0 H = some (0, H) := by
    intro L hL H
    rw [hf0, show f0 + 30000 = (f0 + 29999) + 1 from rfl, hL]
    unfold f_X13_is_h39
    rw [if_pos rfl]
    rfl
  have e1 : (nI z = 1) = (z = 1) := al_eq (b := 1) (by omega) (by omega)
  unfold f_X13_is
  rw [q_g12, if_neg (not_not_intro rfl), q_g8]
  by_cases c1 : z = 1
  · rw [if_neg (not_not_intro (by rw [e1]; exact c1)), tL_e hw, q_g11, q_g10, al_sub h1, decide_eq_true c1, Bool.true_and]
    unfold isWd
    by_cases c2 : en - st = (jv_tx.getD w []).length
    · rw [if_neg (not_not_intro (by rw [c2])), decide_eq_true c2, Bool.true_and]
      exact q_is_l (h := h) (m := m) hB h4 w st hw (by omega) (jlp4 (f_X13_is_h39 (fun y27 h26 => jz y27 h26))) (fun _ => rfl) _ 0 jfu (by omega) (by omega)
    · rw [if_pos (by rw [al_eq (by omega) (by omega)]; exact fun g => c2 g.symm), decide_eq_false c2, Bool.false_and]
      exact no (jlp4 (f_X13_is_h39 (fun y24 h23 => jz y24 h23))) (fun _ => rfl) _
  · rw [if_pos (by rw [e1]; exact c1), decide_eq_false c1, Bool.false_and]
    exact no (jlp4 (f_X13_is_h39 (fun y17 h16 => jz y17 h16))) (fun _ => rfl) _
theorem q_isX (w : Nat) (ho : ¬ o = 0) : f_X13_is m w (pm h m (rq s a y v b e o q c k)) = some (bn false, pm h m (rq s a y v b e o q c k)) := by
  obtain ⟨f0, hf0⟩ := jfu_s
  unfold f_X13_is
  rw [q_g12, if_pos ho, hf0, show f0 + 30000 = (f0 + 29999) + 1 from rfl]
  show f_X13_is_h39 _ _ m w 0 0 _ = _
  unfold f_X13_is_h39
  rw [if_pos rfl]
  rfl
theorem q_which_l (g : Nat → Bool) (H : jh) (s' : ms) (hH : H = pm h m s') (hg : ∀ w, w < 11 → f_X13_is m w H = some (bn (g w), H)) (L : Nat → Nat → Int32 → jh → Option (Int32 × jh)) (hL : ∀ f, L (f + 1) = f_X13_which_h2 (fun h10 => some ((-1), h10)) (L f)) : ∀ r i f, i + r = 11 → r + 1 ≤ f → L f m (nI i) H = some ((if ff g r i = 11 then nm1 else nI (ff g r i)), H) := by
  intro r
  induction r with
  | zero =>
    intro i f hi hf
    obtain ⟨f, rfl⟩ : ∃ g, f = g + 1 := ⟨f - 1, by omega⟩
    rw [hL]
    unfold f_X13_which_h2
    rw [hH, pm_gR0, pm_lnQ, if_pos (show (11 : Int32) ≤ nI i by rw [show (11 : Int32) = nI 11 from rfl, al_le (by omega) (by omega)]; omega), ff, if_pos (by omega)]
    rfl
  | succ r ih =>
    intro i f hi hf
    obtain ⟨f, rfl⟩ : ∃ g, f = g + 1 := ⟨f - 1, by omega⟩
    have hi' : i < 11 := by omega
    have hgi := hg i hi'
    have hih := ih (i + 1) f (by omega) (by omega)
    rw [hL]
    unfold f_X13_which_h2
    rw [hH] at hgi hih ⊢
    rw [pm_gR0, pm_lnQ, if_neg (show ¬ (11 : Int32) ≤ nI i by rw [show (11 : Int32) = nI 11 from rfl, al_le (by omega) (by omega)]; omega), pm_gR0, pm_aQ, if_neg (al_in hi' (by decide)), al_cl (by omega), show mw i = some i from if_pos hi', nn_some, pm_cV, hgi, bd_some, ff, show nI i + (1 : Int32) = nI (i + 1) from al_add i 1, hih]
    cases g i with
    | true => rw [if_neg (show ¬ bn true = 0 by decide), if_pos rfl, if_neg (by omega)]
    | false => rw [if_pos (show bn false = 0 by decide), if_neg (show ¬ (false = true) by decide)]
theorem q_which (hB : BB B N) (h4 : ∀ j, j < N → s 4 j = nI (B j)) (p : Nat) (hp : p ≤ N) : f_X13_which m (pm h m (rq s a (nI (tY B N p)) v (nI (tS B N p)) (nI (tE B N p)) 0 q c k)) = some ((if whW B N p = 11 then nm1 else nI (whW B N p)), pm h m (rq s a (nI (tY B N p)) v (nI (tS B N p)) (nI (tE B N p)) 0 q c k)) := by
  obtain ⟨f0, hf0⟩ := jfu_s
  have hb := tk_b hB p hp
  have := q_which_l (h := h) (m := m) (fun w => decide (tY B N p = 1) && isWd B (tS B N p) (tE B N p) (jv_tx.getD w [])) (pm h m (rq s a (nI (tY B N p)) v (nI (tS B N p)) (nI (tE B N p)) 0 q c k)) _ rfl (fun w hw => q_is hB h4 w (tY B N p) (tS B N p) (tE B N p) (by omega) (by omega) hb.2.1 hb.2.2.1) (jlp2 (f_X13_which_h2 (fun h10 => some ((-1), h10)))) (fun _ => rfl) 11 0 jfu (by omega) (by omega)
  rw [whW_ff] at this
  exact this
theorem q_whichX (ho : ¬ o = 0) : f_X13_which m (pm h m (rq s a y v b e o q c k)) = some (nm1, pm h m (rq s a y v b e o q c k)) := by
  obtain ⟨f0, hf0⟩ := jfu_s
  exact q_which_l (h := h) (m := m) (fun w => false) (pm h m (rq s a y v b e o q c k)) _ rfl (fun w hw => q_isX w ho) (jlp2 (f_X13_which_h2 (fun h10 => some ((-1), h10)))) (fun _ => rfl) 11 0 jfu (by omega) (by omega)
/-! the state of a reading: good at a place, or a fault and where -/
def SN (B : Nat → Nat) (N : Nat) (s s' : ms) (r : Nat × Nat) (c : Nat → Int32) (k : Int32) : Prop := ∃ a y v b e o q, s' = rq s a y v b e o q c k ∧ (r.1 = 0 → a = nI (tE B N r.2) ∧ y = nI (tY B N r.2) ∧ b = nI (tS B N r.2) ∧ e = nI (tE B N r.2) ∧ o = 0 ∧ VT B N r.2 v) ∧ (r.1 ≠ 0 → o = nI r.1 ∧ q = nI r.2) ∧ r.1 ≤ 2 ∧ r.2 ≤ N
def nmS (B : Nat → Nat) (N t : Nat) (r : Nat × Nat) : Nat × Nat := if r.1 = 0 then (if nfl B N t r.2 = 0 then (0, tE B N r.2) else (nfl B N t r.2, tS B N r.2)) else r
def kdS (B : Nat → Nat) (N : Nat) (r : Nat × Nat) : Nat × Nat := if r.1 = 0 then (if kfl B N r.2 = 0 then (0, tE B N r.2) else (kfl B N r.2, tS B N r.2)) else r
theorem SN_bad {B : Nat → Nat} {N : Nat} {s : ms} {a y v b e k : Int32} {c : Nat → Int32} (x l : Nat) (hx : x ≠ 0) (hx2 : x ≤ 2) (hl : l ≤ N) : SN B N s (rq s a y v b e (nI x) (nI l) c k) (x, l) c k := ⟨_, _, _, _, _, _, _, rfl, fun g => absurd g hx, fun _ => ⟨rfl, rfl⟩, hx2, hl⟩
theorem nz {x : Nat} (h : x ≠ 0) (h2 : x ≤ 2) : ¬ nI x = 0 := fun g => h (by rw [show (0 : Int32) = nI 0 from rfl, al_eq (by omega) (by omega)] at g; exact g)
theorem q_num (hB : BB B N) (h7 : s 7 0 = nI N) (h4 : ∀ j, j < N → s 4 j = nI (B j)) (t : Nat) (ht : t < 100) {s' : ms} {r : Nat × Nat} (S : SN B N s s' r c k) : ∃ x s'', f_X13_readNumber m (nI t) (pm h m s') = some (x, pm h m s'') ∧ SN B N s s'' (nmS B N t r) c k ∧ ((nmS B N t r).1 = 0 → x = nI (rdV B N r.2)) := by
  have hN := hB.1
  obtain ⟨a, y, v, b, e, o, q, rfl, g1, g2, g3, g4⟩ := S
  obtain ⟨r1, p⟩ := r
  dsimp only at g1 g2 g3 g4 ⊢
  have hb := tk_b hB p g4
  unfold f_X13_readNumber nmS
  rw [q_g12]
  by_cases c0 : r1 = 0
  · obtain ⟨rfl, rfl, rfl, rfl, rfl, hv⟩ := g1 c0
    subst c0
    rw [if_pos rfl, q_g8, if_pos rfl]
    have e2 : (nI (tY B N p) = 2) = (tY B N p = 2) := al_eq (b := 2) (by omega) (by omega)
    have bad : ∀ x : Nat, x ≠ 0 → x ≤ 2 → ∃ x' s'', (cV (pm h m (rq s (nI (tE B N p)) (nI (tY B N p)) v (nI (tS B N p)) (nI (tE B N p)) 0 q c k)) m 11 (f_X13_wrong m (nI x) (pm h m (rq s (nI (tE B N p)) (nI (tY B N p)) v (nI (tS B N p)) (nI (tE B N p)) 0 q c k))) fun _ h8 => f_X13_readNumber_b51 m h8) = some (x', pm h m s'') ∧ SN B N s s'' (x, tS B N p) c k ∧ ((x, tS B N p).1 = 0 → x' = nI (rdV B N p)) := by
      intro x hx hx2
      unfold f_X13_readNumber_b51
      rw [q_c, q_wrong0, bd_some, q_g9, q_g12, if_pos (nz hx hx2)]
      exact ⟨_, _, rfl, SN_bad x _ hx hx2 (by omega), fun g => absurd g hx⟩
    by_cases c1 : tY B N p = 2
    · rw [if_pos (by rw [e2]; exact c1), q_g11, q_g10, al_sub hb.2.1]
      by_cases c2 : tE B N p - tS B N p ≤ 2
      · have hvv := hv c1 c2
        obtain ⟨d1, d2, d3⟩ := rdV_b hB p g4 c1 c2
        rw [if_neg (show ¬ (2 : Int32) < nI (tE B N p - tS B N p) by rw [show (2 : Int32) = nI 2 from rfl, al_lt (by omega) (by omega)]; omega), q_g9]
        by_cases c3 : rdV B N p ≤ t
        · have en : nfl B N t p = 0 := by unfold nfl; rw [if_pos c1, if_pos c2, if_pos c3]
          rw [if_pos (show v ≤ nI t by rw [hvv, al_le (by omega) (by omega)]; exact c3), en, if_pos rfl]
          unfold f_X13_readNumber_b51
          rw [q_g9, q_g12, if_neg (not_not_intro rfl), q_c]
          obtain ⟨v', k1, k2⟩ := q_step (h := h) (m := m) (y := nI (tY B N p)) (v := v) (b := nI (tS B N p)) (e := nI (tE B N p)) (o := 0) (q := q) (c := c) (k := k) hB h7 h4 (tE B N p) hb.2.2.1
          rw [k1, bd_some]
          exact ⟨_, _, rfl, ⟨_, _, _, _, _, _, _, rfl, fun _ => ⟨rfl, rfl, rfl, rfl, rfl, k2⟩, fun g => absurd rfl g, Nat.zero_le _, hb.2.2.1⟩, fun _ => hvv⟩
        · have en : nfl B N t p = 2 := by unfold nfl; rw [if_pos c1, if_pos c2, if_neg c3]
          rw [if_neg (show ¬ v ≤ nI t by rw [hvv, al_le (by omega) (by omega)]; exact c3), en, if_neg (by decide)]
          exact bad 2 (by decide) (by decide)
      · have en : nfl B N t p = 2 := by unfold nfl; rw [if_pos c1, if_neg c2]
        rw [if_pos (show (2 : Int32) < nI (tE B N p - tS B N p) by rw [show (2 : Int32) = nI 2 from rfl, al_lt (by omega) (by omega)]; omega), en, if_neg (by decide)]
        exact bad 2 (by decide) (by decide)
    · have en : nfl B N t p = 1 := by unfold nfl; rw [if_neg c1]
      rw [if_neg (by rw [e2]; exact c1), en, if_neg (by decide)]
      exact bad 1 (by decide) (by decide)
  · obtain ⟨rfl, rfl⟩ := g2 c0
    rw [if_neg (nz c0 g3), if_neg c0]
    exact ⟨_, _, rfl, SN_bad r1 p c0 g3 g4, fun g => absurd g c0⟩
theorem q_kind (hB : BB B N) (h7 : s 7 0 = nI N) (h4 : ∀ j, j < N → s 4 j = nI (B j)) {s' : ms} {r : Nat × Nat} (S : SN B N s s' r c k) : ∃ x s'', f_X13_readKind m (pm h m s') = some (x, pm h m s'') ∧ SN B N s s'' (kdS B N r) c k ∧ ((kdS B N r).1 = 0 → x = kvl (whW B N r.2)) := by
  have hN := hB.1
  obtain ⟨a, y, v, b, e, o, q, rfl, g1, g2, g3, g4⟩ := S
  obtain ⟨r1, p⟩ := r
  dsimp only at g1 g2 g3 g4 ⊢
  have hb := tk_b hB p g4
  have hw := whW_le B N p
  have kd : ∀ (x : Int32) (H : jh), f_X13_kindOf x H = some ((if ¬ x = 1 then (if ¬ x = 2 then 2 else 0) else 1), H) := by
    intro x H
    unfold f_X13_kindOf
    repeat' split
    all_goals rfl
  have badT : ∀ (x : Nat) (a y v b e q x1 : Int32), x ≠ 0 → x ≤ 2 → ∃ x', f_X13_readKind_b26 m x1 (pm h m (rq s a y v b e (nI x) q c k)) = some (x', pm h m (rq s a y v b e (nI x) q c k)) := by
    intro x a y v b e q x1 hx hx2
    unfold f_X13_readKind_b26 f_X13_readKind_b37
    rw [q_g12, if_pos (nz hx hx2), kd, bd_some]
    exact ⟨_, rfl⟩
  unfold f_X13_readKind kdS
  by_cases c0 : r1 = 0
  · obtain ⟨rfl, rfl, rfl, rfl, rfl, hv⟩ := g1 c0
    subst c0
    rw [q_c, q_which hB h4 p g4, bd_some, q_g12, if_neg (not_not_intro rfl), r_isIn, bd_some, if_pos rfl]
    by_cases c1 : 1 ≤ whW B N p ∧ whW B N p ≤ 3
    · have ek : kfl B N p = 0 := by unfold kfl; rw [if_pos c1]
      have e1 : decide ((1 : Int32) ≤ nI (whW B N p) ∧ nI (whW B N p) ≤ 3) = true := decide_eq_true ⟨by rw [show (1 : Int32) = nI 1 from rfl, al_le (by omega) (by omega)]; exact c1.1, by rw [show (3 : Int32) = nI 3 from rfl, al_le (by omega) (by omega)]; exact c1.2⟩
      rw [if_neg (show ¬ whW B N p = 11 by omega), e1, if_pos (show ¬ bn true = 0 by decide), ek, if_pos rfl]
      unfold f_X13_readKind_b26 f_X13_readKind_b37
      obtain ⟨v', k1, k2⟩ := q_step (h := h) (m := m) (y := nI (tY B N p)) (v := v) (b := nI (tS B N p)) (e := nI (tE B N p)) (o := 0) (q := q) (c := c) (k := k) hB h7 h4 (tE B N p) hb.2.2.1
      rw [q_g12, if_neg (not_not_intro rfl), q_c, k1, bd_some, kd, bd_some]
      refine ⟨_, _, rfl, ⟨_, _, _, _, _, _, _, rfl, fun _ => ⟨rfl, rfl, rfl, rfl, rfl, k2⟩, fun g => absurd rfl g, Nat.zero_le _, hb.2.2.1⟩, fun _ => ?_⟩
      have : whW B N p = 1 ∨ whW B N p = 2 ∨ whW B N p = 3 := by omega
      rcases this with e | e | e <;> rw [e] <;> rfl
    · have ek : kfl B N p = 1 := by unfold kfl; rw [if_neg c1]
      have e1 : decide ((1 : Int32) ≤ (if whW B N p = 11 then nm1 else nI (whW B N p)) ∧ (if whW B N p = 11 then nm1 else nI (whW B N p)) ≤ 3) = false := by
        refine decide_eq_false (fun g => ?_)
        by_cases c2 : whW B N p = 11
        · rw [if_pos c2] at g; exact absurd g.1 (by decide)
        · rw [if_neg c2, show (1 : Int32) = nI 1 from rfl, al_le (by omega) (by omega), show (3 : Int32) = nI 3 from rfl, al_le (by omega) (by omega)] at g
          omega
      rw [e1, if_neg (show ¬ ¬ bn false = 0 by decide), ek, if_neg (show ¬ (1 : Nat) = 0 by decide), q_c, show f_X13_wrong m 1 _ = _ from q_wrong0 1, bd_some]
      obtain ⟨x', kx⟩ := badT 1 (nI (tE B N p)) (nI (tY B N p)) v (nI (tS B N p)) (nI (tE B N p)) (nI (tS B N p)) (if whW B N p = 11 then nm1 else nI (whW B N p)) (by decide) (by decide)
      exact ⟨x', _, kx, SN_bad 1 _ (by decide) (by decide) (by omega), fun g => by cases g⟩
  · obtain ⟨rfl, rfl⟩ := g2 c0
    rw [q_c, q_whichX (nz c0 g3), bd_some, q_g12, if_pos (nz c0 g3), if_neg c0]
    obtain ⟨x', kx⟩ := badT r1 a y v b e (nI p) nm1 c0 g3
    exact ⟨x', _, kx, SN_bad r1 p c0 g3 g4, fun g => absurd g c0⟩
end RTK
