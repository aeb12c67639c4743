/-! roads: STEPS and ROAMS by call, both sides -/
theorem c_la {H : jh} {z w : Nat} {W : ms} {v : vw} (hW : Hw H w W) (hw : w + 28 ≤ z + 92) (C : ClsV W v) (Wf : WFv v) (p st : Nat) (hst : st < 9) (hp : p < 16) (hp1 : v 0 p = 1) {D G S : Nat → Int32} {c : Nat} {d Q x : Nat → Nat} (hV : RV D G S c d Q x) (hd0 : d st ≠ 0) (hd9 : d st < 900) :
    ∃ D' G' S' c' d' Q' x', f_X7_lookAround (z + 92) w (nI p) (nI st) (prr H z D G S (nI c)) = some ((), prr H z D' G' S' (nI c')) ∧ RV D' G' S' c' d' Q' x' ∧ ADD d (d st + 1) (mvU v p (ow v p st) (decide (bs v p st = 1))) d' ∧ QX c Q d c' Q' d' (d st + 1) ∧ ADD x (d st + 1) (mvM v p (ow v p st) (decide (bs v p st = 1))) x' := by
  have hc1 := Wf.c1
  have h1 := Wf.pr p hp
  have hG : Hw (prr H z D G S (nI c)) w W := rr_w hW hw
  have e2 : W 2 p = nI (v 3 p) := C.pa p 2 hp (by decide)
  have e5 : W 5 p = nI (v 6 p) := C.pa p 5 hp (by decide)
  obtain ⟨f0, hf0⟩ := jfu_s
  have how : ow v p st < 100 := by unfold ow; split <;> omega
  obtain ⟨D', G', S', c', d', Q', x', g1, g2, g3, g4, g5⟩ := c_la_l (z := z) hW hw C Wf p st (ow v p st) (decide (bs v p st = 1)) hst how hp (jlp9 (f_X7_lookAround_h59 (fun h41 => some ((), h41)))) (fun _ => rfl) 16 0 jfu D G S c d Q x (by omega) (by omega) hV hd0 hd9
  refine ⟨D', G', S', c', d', Q', x', ?_, g2, ?_, g4, ?_⟩
  · unfold f_X7_lookAround f_X7_lookAround_b23 f_X7_lookAround_b45
    rw [hw_gR0_0 hG]
    by_cases e8 : st = 8
    · subst e8
      have eo : ow v p 8 = v 3 p := if_pos rfl
      have eb : bs v p 8 = v 7 p := if_pos rfl
      rw [eo, eb] at g1
      rw [if_neg (show ¬ ¬ nI 8 = 8 by decide), hw_gR1_2 hG, hr2 hG p _ hp, e2, if_neg (show ¬ ¬ nI 8 = 8 by decide), hw_cV1 hG, h_power hG C p hp, bd_some]
      by_cases h7 : v 7 p = 1
      · rw [show decide (v 0 p = 1 ∧ v 7 p = 1) = true by simp [hp1, h7], if_neg (show ¬ bn true = 0 by decide), hw_gR1_5 hG, hr5 hG p _ hp, e5]
        rw [decide_eq_true h7] at g1
        exact g1
      · rw [show decide (v 0 p = 1 ∧ v 7 p = 1) = false by simp [h7], if_pos (show bn false = 0 by decide), hw_gR1_5 hG, hr5 hG p _ hp, e5]
        rw [decide_eq_false h7] at g1
        exact g1
    · have eo : ow v p st = st := if_neg e8
      have eb : bs v p st = 1 := if_neg e8
      have n8 : ¬ nI st = 8 := by rw [show (8 : Int32) = nI 8 from rfl, al_eq (by omega) (by omega)]; exact e8
      rw [eo, eb] at g1
      rw [if_pos n8, if_pos n8, hw_gR1_5 hG, hr5 hG p _ hp, e5]
      exact g1
  · intro j
    obtain ⟨a1, a2, a3⟩ := g3 j
    exact ⟨a1, fun h5 ⟨q, k1, k2⟩ => a2 h5 ⟨q, Nat.zero_le _, k1, k2⟩, fun h5 h6 => a3 h5 (fun ⟨q, _, k1, k2⟩ => h6 ⟨q, k1, k2⟩)⟩
  · intro j
    obtain ⟨a1, a2, a3⟩ := g5 j
    exact ⟨a1, fun h5 ⟨k0, q, k1, k2⟩ => a2 h5 ⟨k0, q, Nat.zero_le _, k1, k2⟩, fun h5 h6 => a3 h5 (fun ⟨k0, q, _, k1, k2⟩ => h6 ⟨k0, q, k1, k2⟩)⟩
theorem c_wk_l {H : jh} {z w : Nat} {W : ms} {v : vw} (hW : Hw H w W) (hw : w + 28 ≤ z + 92) (C : ClsV W v) (Wf : WFv v) (p : Nat) (hp : p < 16) (hp1 : v 0 p = 1) (L : Nat → Nat → Nat → Int32 → Int32 → jh → Option (Unit × jh)) (hL : ∀ f, L (f + 1) = f_X7_walk_h80 (fun h31 => some ((), h31)) (L f)) : ∀ k i f (D G S : Nat → Int32) (c : Nat) (d Q x : Nat → Nat), i + k = 9 → k + 1 ≤ f → RV D G S c d Q x → BI v p i c d Q x → ∃ D' G' S' c' d' Q' x', L f (z + 92) w (nI p) (nI i) (prr H z D G S (nI c)) = some ((), prr H z D' G' S' (nI c')) ∧ RV D' G' S' c' d' Q' x' ∧ BI v p c' c' d' Q' x' := by
  intro k
  induction k with
  | zero =>
    intro i f D G S c d Q x hi hf hV hB
    obtain ⟨f, rfl⟩ : ∃ g, f = g + 1 := ⟨f - 1, by omega⟩
    have hc9 : c ≤ 9 := by rw [hV.2.2.2.1]; exact cnt_le _ _ _
    have hle := hB.le
    have e : i = c := by omega
    rw [e] at hB
    refine ⟨D, G, S, c, d, Q, x, ?_, hV, hB⟩
    rw [hL]
    unfold f_X7_walk_h80
    rw [rr_3, if_pos (by rw [al_le (by omega) (by omega)]; omega)]
  | succ k ih =>
    intro i f D G S c d Q x hi hf hV hB
    obtain ⟨f, rfl⟩ : ∃ g, f = g + 1 := ⟨f - 1, by omega⟩
    have hc9 : c ≤ 9 := by rw [hV.2.2.2.1]; exact cnt_le _ _ _
    have hle := hB.le
    rw [hL]
    unfold f_X7_walk_h80
    rw [rr_3]
    by_cases hic : i < c
    · have hq := hB.qd i hic
      have hbd := hB.bd.1 (Q i)
      rw [if_neg (by rw [al_le (by omega) (by omega)]; omega), if_neg (by rw [show (9 : Int32) = nI 9 from rfl, al_le (by omega) (by omega)]; omega), rr_1, rr_g i (by omega), hV.2.1 i hic, rr_c]
      obtain ⟨D', G', S', c', d', Q', x', g1, g2, g3, g4, g5⟩ := c_la (z := z) hW hw C Wf p (Q i) (by omega) hp hp1 hV hq.2 (by omega)
      rw [g1, bd_some, show nI i + 1 = nI (i + 1) from al_add i 1]
      exact ih (i + 1) f D' G' S' c' d' Q' x' (by omega) (by omega) g2 (BI_s Wf hB hic g3 g4 g5)
    · have e : i = c := by omega
      rw [if_pos (by rw [al_le (by omega) (by omega)]; omega)]
      rw [e] at hB
      exact ⟨D, G, S, c, d, Q, x, rfl, hV, hB⟩
theorem c_wd_l {H : jh} {z w : Nat} (a : Int32) {G S : Nat → Int32} {n : Int32} (K : Nat → Nat → Int32 → jh → Option (Unit × jh)) (L : Nat → Nat → Nat → Int32 → Int32 → jh → Option (Unit × jh)) (hL : ∀ f, L (f + 1) = f_X7_walk_h2 K (L f)) : ∀ k i f (D : Nat → Int32), i + k = 9 → k + 1 ≤ f → ∃ D', L f (z + 92) w a (nI i) (prr H z D G S n) = K (z + 92) w a (prr H z D' G S n) ∧ (∀ j, i ≤ j → j < 9 → D' j = nm1) ∧ ∀ j, j < i → D' j = D j := by
  intro k
  induction k with
  | zero =>
    intro i f D hi hf
    obtain ⟨f, rfl⟩ : ∃ g, f = g + 1 := ⟨f - 1, by omega⟩
    refine ⟨D, ?_, fun j h1 h2 => by omega, fun _ _ => rfl⟩
    rw [hL]
    unfold f_X7_walk_h2
    rw [if_pos (show (9 : Int32) ≤ nI i by rw [show (9 : Int32) = nI 9 from rfl, al_le (by omega) (by omega)]; omega)]
  | succ k ih =>
    intro i f D hi hf
    obtain ⟨f, rfl⟩ : ∃ g, f = g + 1 := ⟨f - 1, by omega⟩
    obtain ⟨D', e1, e2, e3⟩ := ih (i + 1) f (upd D i nm1) (by omega) (by omega)
    refine ⟨D', ?_, ?_, ?_⟩
    · rw [hL]
      unfold f_X7_walk_h2
      rw [if_neg (show ¬ (9 : Int32) ≤ nI i by rw [show (9 : Int32) = nI 9 from rfl, al_le (by omega) (by omega)]; omega), rr_0, rw_d i (by omega), show nI i + 1 = nI (i + 1) from al_add i 1]
      exact e1
    · intro j h1 h2
      by_cases e : j = i
      · rw [e3 j (by omega), e]; exact if_pos rfl
      · exact e2 j (by omega) h2
    · intro j h1
      rw [e3 j (by omega)]; exact if_neg (by omega)
theorem c_ws_l {H : jh} {z w : Nat} (a : Int32) {D G : Nat → Int32} {n : Int32} (K : Nat → Nat → Int32 → jh → Option (Unit × jh)) (L : Nat → Nat → Nat → Int32 → Int32 → jh → Option (Unit × jh)) (hL : ∀ f, L (f + 1) = f_X7_walk_h23 K (L f)) : ∀ k i f (S : Nat → Int32), i + k = 8 → k + 1 ≤ f → ∃ S', L f (z + 92) w a (nI i) (prr H z D G S n) = K (z + 92) w a (prr H z D G S' n) ∧ (∀ j, i ≤ j → j < 8 → S' j = nm1) ∧ ∀ j, j < i → S' j = S j := by
  intro k
  induction k with
  | zero =>
    intro i f S hi hf
    obtain ⟨f, rfl⟩ : ∃ g, f = g + 1 := ⟨f - 1, by omega⟩
    refine ⟨S, ?_, fun j h1 h2 => by omega, fun _ _ => rfl⟩
    rw [hL]
    unfold f_X7_walk_h23
    rw [if_pos (show (8 : Int32) ≤ nI i by rw [show (8 : Int32) = nI 8 from rfl, al_le (by omega) (by omega)]; omega)]
  | succ k ih =>
    intro i f S hi hf
    obtain ⟨f, rfl⟩ : ∃ g, f = g + 1 := ⟨f - 1, by omega⟩
    obtain ⟨S', e1, e2, e3⟩ := ih (i + 1) f (upd S i nm1) (by omega) (by omega)
    refine ⟨S', ?_, ?_, ?_⟩
    · rw [hL]
      unfold f_X7_walk_h23
      rw [if_neg (show ¬ (8 : Int32) ≤ nI i by rw [show (8 : Int32) = nI 8 from rfl, al_le (by omega) (by omega)]; omega), rr_2, rw_s i (by omega), show nI i + 1 = nI (i + 1) from al_add i 1]
      exact e1
    · intro j h1 h2
      by_cases e : j = i
      · rw [e3 j (by omega), e]; exact if_pos rfl
      · exact e2 j (by omega) h2
    · intro j h1
      rw [e3 j (by omega)]; exact if_neg (by omega)
theorem c_walk {H : jh} {z w : Nat} {W : ms} {v : vw} (hW : Hw H w W) (hw : w + 28 ≤ z + 92) (C : ClsV W v) (Wf : WFv v) (p : Nat) (hp : p < 16) (hp1 : v 0 p = 1) (D G S : Nat → Int32) (n : Int32) : ∃ D' G' S' n', f_X7_walk (z + 92) w (nI p) (prr H z D G S n) = some ((), prr H z D' G' S' n') ∧ ∀ m, m < 8 → S' m = stv (stp v p m) ∧ stp v p m < 1000 := by
  have hc1 := Wf.c1
  have hc2 := Wf.c2
  have h1 := Wf.pr p hp
  obtain ⟨f0, hf0⟩ := jfu_s
  have e3 : W 3 p = nI (v 4 p) := C.pa p 3 hp (by decide)
  unfold f_X7_walk
  obtain ⟨D0, a1, a2, -⟩ := c_wd_l (H := H) (z := z) (w := w) (nI p) (G := G) (S := S) (n := n) (fun y5 y6 y7 h4 => jlp4 (f_X7_walk_h23 (fun y12 y13 y14 h11 => gR h11 y12 5 2 fun v15 => gR h11 y13 9 0 fun v16 => gR h11 v16 3 3 fun v17 => aI h11 v17 y14 fun v18 => sI h11 v15 v18 0 fun h19 => gR h19 y12 5 0 fun v20 => sI h19 v20 8 0 fun h21 => gR h21 y12 5 1 fun v22 => sI h21 v22 0 8 fun h23 => pV h23 y12 5 3 (.int (1)) fun h24 => jlp4 (f_X7_walk_h80 (fun h31 => some ((), h31))) jfu y12 y13 y14 0 h24)) jfu y5 y6 y7 0 h4) (jlp4 (f_X7_walk_h2 (fun y5 y6 y7 h4 => jlp4 (f_X7_walk_h23 (fun y12 y13 y14 h11 => gR h11 y12 5 2 fun v15 => gR h11 y13 9 0 fun v16 => gR h11 v16 3 3 fun v17 => aI h11 v17 y14 fun v18 => sI h11 v15 v18 0 fun h19 => gR h19 y12 5 0 fun v20 => sI h19 v20 8 0 fun h21 => gR h21 y12 5 1 fun v22 => sI h21 v22 0 8 fun h23 => pV h23 y12 5 3 (.int (1)) fun h24 => jlp4 (f_X7_walk_h80 (fun h31 => some ((), h31))) jfu y12 y13 y14 0 h24)) jfu y5 y6 y7 0 h4))) (fun _ => rfl) 9 0 jfu D (by omega) (by omega)
  obtain ⟨S0, b1, b2, -⟩ := c_ws_l (H := H) (z := z) (w := w) (nI p) (D := D0) (G := G) (n := n) (fun y12 y13 y14 h11 => gR h11 y12 5 2 fun v15 => gR h11 y13 9 0 fun v16 => gR h11 v16 3 3 fun v17 => aI h11 v17 y14 fun v18 => sI h11 v15 v18 0 fun h19 => gR h19 y12 5 0 fun v20 => sI h19 v20 8 0 fun h21 => gR h21 y12 5 1 fun v22 => sI h21 v22 0 8 fun h23 => pV h23 y12 5 3 (.int (1)) fun h24 => jlp4 (f_X7_walk_h80 (fun h31 => some ((), h31))) jfu y12 y13 y14 0 h24) (jlp4 (f_X7_walk_h23 (fun y12 y13 y14 h11 => gR h11 y12 5 2 fun v15 => gR h11 y13 9 0 fun v16 => gR h11 v16 3 3 fun v17 => aI h11 v17 y14 fun v18 => sI h11 v15 v18 0 fun h19 => gR h19 y12 5 0 fun v20 => sI h19 v20 8 0 fun h21 => gR h21 y12 5 1 fun v22 => sI h21 v22 0 8 fun h23 => pV h23 y12 5 3 (.int (1)) fun h24 => jlp4 (f_X7_walk_h80 (fun h31 => some ((), h31))) jfu y12 y13 y14 0 h24))) (fun _ => rfl) 8 0 jfu S (by omega) (by omega)
  have hG : Hw (prr H z D0 G S0 n) w W := rr_w hW hw
  obtain ⟨D', G', S', c', d', Q', x', k1, k2, k3⟩ := c_wk_l (z := z) hW hw C Wf p hp hp1 (jlp4 (f_X7_walk_h80 (fun h31 => some ((), h31)))) (fun _ => rfl) 9 0 jfu (upd D0 8 (nI 0)) (upd G 0 (nI 8)) (upd S0 (v 4 p) (nI 0)) 1 (fun j => if j = 8 then 1 else 0) (fun _ => 8) (fun j => if j = v 4 p then 1 else 0) (by omega) (by omega) (by
      refine ⟨?_, ?_, ?_, ?_, ?_, ?_⟩
      · intro j hj
        unfold upd
        show _ = stv (if j = 8 then 1 else 0)
        by_cases e : j = 8
        · rw [if_pos e, if_pos e]; rfl
        · rw [if_neg e, if_neg e]; exact a2 j (Nat.zero_le _) hj
      · intro j hj
        unfold upd
        rw [if_pos (by omega)]
      · intro j hj
        unfold upd
        show _ = stv (if j = v 4 p then 1 else 0)
        by_cases e : j = v 4 p
        · rw [if_pos e, if_pos e]; rfl
        · rw [if_neg e, if_neg e]; exact b2 j (Nat.zero_le _) hj
      · decide
      · intro j; show (if j = 8 then 1 else 0) < 1000; split <;> omega
      · intro j; show (if j = v 4 p then 1 else 0) < 1000; split <;> omega) (by
      refine ⟨by omega, ?_, ?_, ?_, ?_, ?_, ?_, ?_, ?_, ?_, ?_, ?_, ?_⟩
      · intro j hj; exact ⟨Nat.le_refl _, by show (if (8 : Nat) = 8 then (1 : Nat) else 0) ≠ 0; simp⟩
      · intro st hs hd
        have hd : (if st = 8 then 1 else 0) ≠ 0 := hd
        by_cases e : st = 8
        · exact ⟨0, by omega, e.symm⟩
        · rw [if_neg e] at hd; exact absurd rfl hd
      · intro st hs hd
        have hd' : (if st = 8 then 1 else 0) ≠ 0 := hd
        show WS v p ((if st = 8 then 1 else 0) - 1) st
        by_cases e : st = 8
        · rw [if_pos e]; exact e
        · rw [if_neg e] at hd'; exact absurd rfl hd'
      · intro j k hjk hk; exact Nat.le_refl _
      · intro hi k hk; exact Nat.le_succ _
      · intro j hj; omega
      · show (if v 4 p = v 4 p then 1 else 0) = 1; exact if_pos rfl
      · intro m hm hne hx
        have hx : (if m = v 4 p then 1 else 0) ≠ 0 := hx
        rw [if_neg hne] at hx; exact absurd rfl hx
      · intro j hj; omega
      · intro hi m hm hx
        show (if m = v 4 p then 1 else 0) ≤ (if 8 = 8 then 1 else 0) + 1
        split <;> simp
      · exact if_pos rfl
      · refine ⟨fun st => ?_, fun m => ?_⟩
        · show (if st = 8 then 1 else 0) ≤ 0 + 1; split <;> omega
        · show (if m = v 4 p then 1 else 0) ≤ 0 + 1; split <;> omega)
  refine ⟨D', G', S', nI c', ?_, fun m hm => ?_⟩
  · refine Eq.trans a1 (Eq.trans b1 ?_)
    show (gR (prr H z D0 G S0 n) (z + 92) 5 2 fun v15 => _) = _
    rw [rr_2, hw_gR0_0 hG, hw_gR1_3 hG, hr3 hG p _ hp, e3, rw_s (v 4 p) (by omega), rr_0, show (8 : Int32) = nI 8 from rfl, rw_d 8 (by omega), rr_1, show (0 : Int32) = nI 0 from rfl, rw_g 0 (by omega), rr_p]
    exact k1
  · have := BI_f Wf k3 m hm
    rw [stp_eq this]
    exact ⟨k2.2.2.1 m hm, k2.2.2.2.2.2 m⟩
theorem WR_m {v : vw} (W : WFv v) {p : Nat} (hp : p < 16) : ∀ n u b m, WR v p n u b m → m < v 12 0 := by
  intro n
  induction n with
  | zero =>
    rintro u b m ⟨rfl, rfl, rfl⟩
    have := W.pr p hp
    omega
  | succ n ih =>
    rintro u b m (h | ⟨u', b', h1, -⟩ | ⟨m', h1, -, -, q, hq, -, e, -⟩)
    · exact ih _ _ _ h
    · exact ih _ _ _ h1
    · have := W.pr q hq
      omega
theorem stp_0 {v : vw} (W : WFv v) {p m : Nat} (hp : p < 16) (hm : v 12 0 ≤ m) : stp v p m = 0 := stp_eq (Or.inl ⟨rfl, fun n ⟨u, b, hw⟩ => by have := WR_m W hp n u b m hw; omega⟩)
noncomputable def rmv (v : vw) (p : Nat) : Int32 := bts (fun m => decide (stp v p m ≠ 0)) (v 12 0) 0 (nI 0)
noncomputable def qSteps (v : vw) (x y : Int32) : Nat × Int32 := if isP v x = true then (if isS v 12 y = true then (0, stv (stp v (cl x 16) (cl y 8))) else (1, nI 0)) else (1, nI 0)
noncomputable def qSt (v : vw) (p w : Nat) : Nat × Int32 := if w = 0 then (0, if p = 0 then nI 0 else fll v p) else if w = 1 then (0, rch v p) else if w = 2 then (0, rmv v p) else (1, nI 0)
noncomputable def qSet (v : vw) (x a : Int32) : Nat × Int32 := if isP v x = true then qSt v (cl x 16) (cl a 3) else (1, nI 0)
/-! the reference -/
theorem r_steps {h : jh} {m : Nat} {s : ms} {v : vw} (R : RowV (s 2) v) (W : WFv v) (x y : Int32) : rA h m s (f_X13_steps m x y (pm h m s)) (qSteps v x y) := by
  have hc := W.c2
  unfold f_X13_steps
  refine ra_in fun s1 h0 e1 _ => ?_
  have R1 : RowV (s1 2) v := by rw [e1]; exact R
  rw [pm_cV, t_isP R1 W, bd_some]
  unfold qSteps
  by_cases hp : isP v x = true
  · obtain ⟨p, hp16, rfl, e, hp1⟩ := isP_t hp
    rw [hp, if_neg (show ¬ bn true = 0 by decide), if_pos rfl, e, pm_cV, show f_X13_isSpace m 2 y (pm h m s1) = _ from t_isS2 R1 W y, bd_some]
    by_cases hs : isS v 12 y = true
    · obtain ⟨u, hu, rfl, eu⟩ := isS_t hc.2 hs
      obtain ⟨r, t, g1, g2, g3, g4⟩ := t_tell (h := h) (m0 := m) R1 W p hp16
      rw [hs, if_pos (show ¬ bn true = 0 by decide), if_pos rfl, eu, pm_cV, g1, bd_some, pm_cV, (t_steps (h := h) (m0 := m) (s := sw s1 21 r) W p u hp16 (by omega) (by rw [sw_eq]; exact g2) g3 g4).1, bd_some]
      exact ra_sw h0 _ 21 _ (by decide)
    · have hs : isS v 12 y = false := by simpa using hs
      rw [hs, if_neg (show ¬ ¬ bn false = 0 by decide), if_neg (by decide)]
      exact ra_fail 1
  · have hp : isP v x = false := by simpa using hp
    rw [hp, if_pos (show bn false = 0 by decide), if_neg (by decide)]
    exact ra_fail 1
theorem t_roam_l {h : jh} {m : Nat} {s : ms} {v : vw} (R : RowV (s 2) v) (W : WFv v) (p : Nat) (hp : p < 16) {t : Nat → Nat} (hT : TK (s 21) t) (hB : Bt t) (hF : FIN v p t) (L : Nat → Nat → Int32 → Int32 → jh → Option (Int32 × jh)) (hL : ∀ f, L (f + 1) = f_X13_set_h70 (fun y19 h18 => some (y19, h18)) (L f)) : ∀ k i a f, i + k = v 12 0 → k + 1 ≤ f → L f m a (nI i) (pm h m s) = some (bts (fun m => decide (stp v p m ≠ 0)) k i a, pm h m s) := by
  have hc := W.c2
  intro k
  induction k with
  | zero =>
    intro i a f hi hf
    obtain ⟨f, rfl⟩ : ∃ g, f = g + 1 := ⟨f - 1, by omega⟩
    rw [hL]
    unfold f_X13_set_h70
    simp (discharger := omega) only [↓al_m, al_lit, al_add, al_mul, bd_some, pm_cV, pm_gR2, bn_0, bn_1, bn_jz, v_of R, v_nm R, v_ct0 R, v_ct1 R, v_ct2 R, v_ar0 R W, v_ar1 R W, v_ar2 R W, v_dp0 R W, v_dp1 R W, v_dp2 R W, v_kp0 R W, v_kp1 R W, v_kp2 R W, v_gv R W, v_bg R W, v_rn R W, v_sh R W, al_le]
    rw [if_pos (by omega), bts]
  | succ k ih =>
    intro i a f hi hf
    obtain ⟨f, rfl⟩ : ∃ g, f = g + 1 := ⟨f - 1, by omega⟩
    rw [hL]
    unfold f_X13_set_h70
    obtain ⟨e, hlt⟩ := t_steps (h := h) (m0 := m) (s := s) W p i hp (by omega) hT hB hF
    simp (discharger := omega) only [↓al_m, al_lit, al_add, al_mul, bd_some, pm_cV, pm_gR2, bn_0, bn_1, bn_jz, v_of R, v_nm R, v_ct0 R, v_ct1 R, v_ct2 R, v_ar0 R W, v_ar1 R W, v_ar2 R W, v_dp0 R W, v_dp1 R W, v_dp2 R W, v_kp0 R W, v_kp1 R W, v_kp2 R W, v_gv R W, v_bg R W, v_rn R W, v_sh R W, al_le, e, stv_m1, or_0, bI_eq]
    rw [if_neg (by omega), bts, ih _ _ f (by omega) (by omega), ih _ _ f (by omega) (by omega)]
    by_cases h0 : stp v p i = 0 <;> simp [h0]
theorem r_set {h : jh} {m : Nat} {s : ms} {v : vw} (R : RowV (s 2) v) (W : WFv v) (x a : Int32) : rA h m s (f_X13_set m x a (pm h m s)) (qSet v x a) := by
  have hc := W.c2
  obtain ⟨f0, hf0⟩ := jfu_s
  unfold f_X13_set
  refine ra_in fun s1 h0 e1 _ => ?_
  have R1 : RowV (s1 2) v := by rw [e1]; exact R
  rw [pm_cV, t_isP R1 W, bd_some]
  unfold qSet
  by_cases hp : isP v x = true
  · obtain ⟨p, hp16, rfl, e, hp1⟩ := isP_t hp
    rw [hp, if_neg (show ¬ bn true = 0 by decide), if_pos rfl, e, r_isIn, show decide ((0 : Int32) ≤ a ∧ a ≤ 2) = decide (cl a 3 < 3) from in_cl a 2 3 rfl (by decide), bd_some]
    rcases i_cases a 3 (by decide) with ⟨w, hw, rfl⟩ | ho
    · rw [cl_in hw (by decide), decide_eq_true hw, if_pos (show ¬ bn true = 0 by decide)]
      unfold qSt
      have hw' : w = 0 ∨ w = 1 ∨ w = 2 := by omega
      rcases hw' with rfl | rfl | rfl
      · rw [if_neg (show ¬ (2 : Int32) ≤ nI 0 by decide), if_pos (show ¬ nI 0 = 1 by decide), if_pos rfl]
        by_cases hp0 : p = 0
        · rw [if_neg (not_not_intro (show nI p = 0 by rw [hp0]; rfl)), if_pos hp0]; exact ra_ok h0 _
        · rw [if_pos (show ¬ nI p = 0 by rw [show (0 : Int32) = nI 0 from rfl, al_eq (by omega) (by omega)]; exact hp0), if_neg hp0, pm_cV, t_fall R1 W p hp16, bd_some]; exact ra_ok h0 _
      · rw [if_neg (show ¬ (2 : Int32) ≤ nI 1 by decide), if_neg (show ¬ ¬ nI 1 = 1 by decide), if_neg (by decide), if_pos rfl, pm_cV, t_reach R1 W p hp16, bd_some]; exact ra_ok h0 _
      · obtain ⟨r, t, g1, g2, g3, g4⟩ := t_tell (h := h) (m0 := m) R1 W p hp16
        rw [if_pos (show (2 : Int32) ≤ nI 2 by decide), if_neg (by decide), if_neg (by decide), if_pos rfl, pm_cV, g1, bd_some]
        have R2 : RowV ((sw s1 21 r) 2) v := by rw [sw_ne _ _ _ _ (by decide)]; exact R1
        have e9 := t_roam_l (h := h) (m := m) (s := sw s1 21 r) R2 W p hp16 (by rw [sw_eq]; exact g2) g3 g4 (jlp3 (f_X13_set_h70 (fun y19 h18 => some (y19, h18)))) (fun _ => rfl) (v 12 0) 0 (nI 0) jfu (by omega) (by omega)
        exact ⟨sw s1 21 r, e9, by rw [sw_ne _ _ _ _ (by decide)]; exact h0, SEq_sw s1 21 r (by decide)⟩
    · rw [cl_out ho, show decide (3 < 3) = false from rfl, if_neg (show ¬ ¬ bn false = 0 by decide)]
      unfold qSt
      simp only [if_true, if_false, not_true_eq_false, not_false_eq_true, Nat.reduceEqDiff, Nat.one_ne_zero, Nat.zero_ne_one]
      exact ra_fail 1
  · have hp : isP v x = false := by simpa using hp
    rw [hp, if_pos (show bn false = 0 by decide), if_neg (by decide)]
    exact ra_fail 1
/-! the class -/
theorem CI.rdz {z : Nat} {H : jh} {b1 b2 : Nat} {Q Q2 : Nat → Option Nat} {I : Option Nat} {T TI : ta} {hi : Bool} {fl : Int32} {n : Nat} {tp : Nat → Int32} (C : CI z H b1 b2 Q Q2 I T hi TI fl n tp) (D G S : Nat → Int32) (k : Int32) : CI z (prr H z D G S k) b1 b2 Q Q2 I T hi TI fl n tp := by
  have hz := C.hz
  have F : Fz H (prr H z D G S k) (fun q => z + 92 ≤ q ∧ q < z + 96) := ⟨Nat.le_refl _, fun q _ hq => prr_o _ _ _ _ _ _ _ hq⟩
  refine C.mk F (fun q hq => by omega) ?_ (C.scz F (fun q hq => by omega)) (C.sp.fz F (by omega) (fun q g1 g2 => by omega)) ⟨D, G, S, k, prr_92 _ _ _ _ _ _, prr_93 _ _ _ _ _ _, prr_94 _ _ _ _ _ _, prr_95 _ _ _ _ _ _⟩ (C.re.fz F hz (fun q g1 g2 => by omega)) ?_ id C.p1 C.p2
  · obtain ⟨sd, e⟩ := C.ob
    exact ⟨sd, by rw [prr_o _ _ _ _ _ _ _ (by omega)]; exact e⟩
  · obtain ⟨f, e⟩ := C.dr
    exact ⟨f, by rw [prr_o _ _ _ _ _ _ _ (by omega)]; exact e⟩
theorem k_walk {z : Nat} {H : jh} {b1 b2 : Nat} {Q Q2 : Nat → Option Nat} {I : Option Nat} {T TI : ta} {hi : Bool} {fl : Int32} {n : Nat} {tp : Nat → Int32} (C : CI z H b1 b2 Q Q2 I T hi TI fl n tp) (Wf : WFv T.1) (p : Nat) (hp : p < 16) (hp1 : T.1 0 p = 1) : ∃ D G S k, f_X7_walk (z + 92) (z + 1 + 1) (nI p) H = some ((), prr H z D G S k) ∧ ∀ m, m < 8 → S m = stv (stp T.1 p m) ∧ stp T.1 p m < 1000 := by
  obtain ⟨W, hW, CW⟩ := C.wld
  obtain ⟨f, g, k, q, e1, e2, e3, e4⟩ := C.rd
  have := c_walk (z := z) hW (by omega) CW Wf p hp hp1 f g k q
  rw [prr_id e1 e2 e3 e4] at this
  exact this
theorem k_steps {z : Nat} {H : jh} {b1 b2 : Nat} {Q Q2 : Nat → Option Nat} {I : Option Nat} {T TI : ta} {hi : Bool} {fl : Int32} {n : Nat} {tp : Nat → Int32} (C : CI z H b1 b2 Q Q2 I T hi TI fl n tp) (Wf : WFv T.1) (x y : Int32) : ∃ H', f_X12_steps z x y H = cA H' (qSteps T.1 x y) ∧ CI z H' b1 b2 Q Q2 I T hi TI fl n tp ∧ ∀ q, z + 100 ≤ q → q < z + 120 → H'.2.2 q = H.2.2 q := by
  have hc := Wf.c2
  unfold f_X12_steps qSteps
  rw [C.cvx, k_needP C]
  by_cases hp : isP T.1 x = true
  · rw [if_pos hp, if_pos hp, bX_l, C.cvx, show f_X12_needSpace z 2 y H = _ from k_needS2 C Wf y]
    by_cases hs : isS T.1 12 y = true
    · rw [if_pos hs, if_pos hs, bX_l]
      obtain ⟨p, hp16, rfl, e, hp1⟩ := isP_t hp
      obtain ⟨u, hu, rfl, eu⟩ := isS_t hc.2 hs
      obtain ⟨D, G, S, k, g1, g2⟩ := k_walk C Wf p hp16 hp1
      obtain ⟨f, g, k0, q, e1, e2, e3, e4⟩ := C.rd
      have C1 := C.rdz D G S k
      refine ⟨prr H z D G S k, ?_, C1, fun q h1 h2 => prr_o _ _ _ _ _ _ _ (by omega)⟩
      rw [C.r3, C.r0, C.s0, cV_of e1, g1, bd_some, C1.r3, rr_c]
      unfold f_X7_stepsTo
      rw [if_neg (by rw [al_neg (by omega)]; exact id), if_neg (by rw [show (8 : Int32) = nI 8 from rfl, al_le (by omega) (by omega)]; omega), rr_2, rr_s u (by omega), bd_some, (g2 u (by omega)).1, e, eu]
      rfl
    · rw [if_neg hs, if_neg hs, bX_r]; exact ⟨H, rfl, C, fun _ _ _ => rfl⟩
  · rw [if_neg hp, if_neg hp, bX_r]; exact ⟨H, rfl, C, fun _ _ _ => rfl⟩
theorem c_roam_l {z : Nat} {H : jh} {b1 b2 : Nat} {Q Q2 : Nat → Option Nat} {I : Option Nat} {T TI : ta} {hi : Bool} {fl : Int32} {n : Nat} {tp : Nat → Int32} (C : CI z H b1 b2 Q Q2 I T hi TI fl n tp) (P : Nat → Nat) (D G S : Nat → Int32) (y : Int32) (hS : ∀ m, m < 8 → S m = stv (P m) ∧ P m < 1000) (L : Nat → Nat → Int32 → Int32 → jh → Option (Int32 × jh)) (hL : ∀ f, L (f + 1) = f_X12_roamsOf_h19 (fun y11 h10 => some (y11, h10)) (L f)) : ∀ k i a f, i + k = 8 → k + 1 ≤ f → L f z a (nI i) (prr H z D G S y) = some (bts (fun m => decide (P m ≠ 0)) k i a, prr H z D G S y) := by
  have C1 := C.rdz D G S y
  intro k
  induction k with
  | zero =>
    intro i a f hi hf
    obtain ⟨f, rfl⟩ : ∃ g, f = g + 1 := ⟨f - 1, by omega⟩
    rw [hL]
    unfold f_X12_roamsOf_h19
    rw [if_pos (show (8 : Int32) ≤ nI i by rw [show (8 : Int32) = nI 8 from rfl, al_le (by omega) (by omega)]; omega), bts]
  | succ k ih =>
    intro i a f hi hf
    obtain ⟨f, rfl⟩ : ∃ g, f = g + 1 := ⟨f - 1, by omega⟩
    obtain ⟨e1, e2⟩ := hS i (by omega)
    rw [hL]
    unfold f_X12_roamsOf_h19 f_X7_stepsTo
    rw [if_neg (show ¬ (8 : Int32) ≤ nI i by rw [show (8 : Int32) = nI 8 from rfl, al_le (by omega) (by omega)]; omega), C1.r3, rr_c, if_neg (by rw [al_neg (by omega)]; exact id), if_neg (show ¬ (8 : Int32) ≤ nI i by rw [show (8 : Int32) = nI 8 from rfl, al_le (by omega) (by omega)]; omega), rr_2, rr_s i (by omega), bd_some, e1, bts, show nI i + 1 = nI (i + 1) from al_add i 1, show (1 : Int32) <<< (nI i &&& 31) = bI i from rfl]
    by_cases h0 : P i = 0
    · rw [if_pos (show stv (P i) = -1 by rw [show (-1 : Int32) = nm1 from rfl, stv_m1 (by omega)]; exact h0), if_neg (by simp [h0])]
      exact ih _ _ f (by omega) (by omega)
    · rw [if_neg (show ¬ stv (P i) = -1 by rw [show (-1 : Int32) = nm1 from rfl, stv_m1 (by omega)]; exact h0), if_pos (by simp [h0])]
      exact ih _ _ f (by omega) (by omega)
theorem k_set {z : Nat} {H : jh} {b1 b2 : Nat} {Q Q2 : Nat → Option Nat} {I : Option Nat} {T TI : ta} {hi : Bool} {fl : Int32} {n : Nat} {tp : Nat → Int32} (C : CI z H b1 b2 Q Q2 I T hi TI fl n tp) (Wf : WFv T.1) (x a : Int32) : ∃ H', f_X12_set z x a H = cA H' (qSet T.1 x a) ∧ CI z H' b1 b2 Q Q2 I T hi TI fl n tp ∧ ∀ q, z + 100 ≤ q → q < z + 120 → H'.2.2 q = H.2.2 q := by
  have hc := Wf.c2
  obtain ⟨f0, hf0⟩ := jfu_s
  unfold f_X12_set qSet
  rw [C.cvx, k_needP C]
  by_cases hp : isP T.1 x = true
  · rw [if_pos hp, if_pos hp, bX_l]
    obtain ⟨p, hp16, rfl, e, hp1⟩ := isP_t hp
    rw [e]
    rcases i_cases a 3 (by decide) with ⟨w, hw, rfl⟩ | ho
    · rw [cl_in hw (by decide)]
      unfold qSt
      have hw' : w = 0 ∨ w = 1 ∨ w = 2 := by omega
      rcases hw' with rfl | rfl | rfl
      · refine ⟨H, ?_, C, fun _ _ _ => rfl⟩
        obtain ⟨W, hW, CW⟩ := C.wld
        obtain ⟨H0, rfl⟩ : ∃ H0, H = pw H0 (z + 1 + 1) W := ⟨H, hW.eq.symm⟩
        rw [if_pos (show nI 0 = 0 from rfl), if_pos rfl, C.r0, C.s0, pw_cV0, c_fallOf CW Wf p hp16, bd_some]; rfl
      · refine ⟨H, ?_, C, fun _ _ _ => rfl⟩
        obtain ⟨W, hW, CW⟩ := C.wld
        obtain ⟨H0, rfl⟩ : ∃ H0, H = pw H0 (z + 1 + 1) W := ⟨H, hW.eq.symm⟩
        rw [if_neg (show ¬ nI 1 = 0 by decide), if_pos (show nI 1 = 1 from rfl), if_neg (by decide), if_pos rfl, C.r0, C.s0, pw_cV0, c_reach CW Wf p hp16 hp1, bd_some]; rfl
      · obtain ⟨D, G, S, k, g1, g2⟩ := k_walk C Wf p hp16 hp1
        obtain ⟨f, g, k0, q, e1, e2, e3, e4⟩ := C.rd
        refine ⟨prr H z D G S k, ?_, C.rdz D G S k, fun q h1 h2 => prr_o _ _ _ _ _ _ _ (by omega)⟩
        have e9 := c_roam_l C (stp T.1 p) D G S k g2 (jlp3 (f_X12_roamsOf_h19 (fun y11 h10 => some (y11, h10)))) (fun _ => rfl) 8 0 (nI 0) jfu (by omega) (by omega)
        unfold f_X12_roamsOf
        rw [if_neg (show ¬ nI 2 = 0 by decide), if_neg (show ¬ nI 2 = 1 by decide), if_pos (show nI 2 = 2 from rfl), if_neg (by decide), if_neg (by decide), if_pos rfl, C.cv, C.r3, C.r0, C.s0, cV_of e1, g1, bd_some, show (0 : Int32) = nI 0 from rfl, e9, bd_some]
        refine congrArg some (Prod.ext (congrArg Sum.inl ?_) rfl)
        show bts (fun m => decide (stp T.1 p m ≠ 0)) 8 0 (nI 0) = rmv T.1 p
        apply hb_ext
        intro i hi
        unfold rmv
        rw [bts_hb _ _ _ _ (by omega) i hi, bts_hb _ _ _ _ (by omega) i hi, hb_0]
        by_cases h1 : i < T.1 12 0
        · have h2 : i < 8 := by omega
          simp [h1, h2]
        · have := stp_0 Wf (p := p) (m := i) hp16 (by omega)
          simp [this]
    · refine ⟨H, ?_, C, fun _ _ _ => rfl⟩
      rw [cl_out ho]
      unfold qSt
      simp (discharger := omega) only [al_lit, i_no ho (by decide), if_true, if_false, not_true_eq_false, not_false_eq_true, Nat.reduceEqDiff, Nat.one_ne_zero, Nat.zero_ne_one]
      rfl
  · rw [if_neg hp, if_neg hp, bX_r]; exact ⟨H, rfl, C, fun _ _ _ => rfl⟩
