/-! the reference reads spaces -/
def GE (e : Nat × List Int32) : Prop := e.1 < 11 ∧ (e.1 = 4 → cl (e.2.getD 2 0) 100 < 100 ∧ cl (e.2.getD 3 0) 100 < 100 ∧ cl (e.2.getD 4 0) 100 < 100) ∧ (e.1 = 7 → cl (e.2.getD 2 0) 3 < 3)
theorem opV_b {B : Nat → Nat} {N : Nat} (hB : BB B N) (ch p : Nat) (hp : p ≤ N) (h : opF B N ch p = 0) : (ch = 107 → cl (opV B N ch p) 3 < 3) ∧ (ch ≠ 107 → cl (opV B N ch p) 100 < 100) := by
  unfold opF at h
  unfold opV
  refine ⟨fun c => ?_, fun c => ?_⟩
  · rw [if_pos c]
    unfold kvl
    repeat' split
    all_goals (rw [cl_in (by decide) (by decide)]; decide)
  · rw [if_neg c] at h ⊢
    unfold nfl at h
    by_cases c1 : tY B N p = 2
    · by_cases c2 : tE B N p - tS B N p ≤ 2
      · obtain ⟨-, d2, -⟩ := rdV_b hB p hp c1 c2
        rw [cl_in (show rdV B N p < 100 by omega) (by decide)]; omega
      · rw [if_pos c1, if_neg c2] at h; cases h
    · rw [if_neg c1] at h; cases h
theorem rdl_v {B : Nat → Nat} {N : Nat} (hB : BB B N) : ∀ cs p, p ≤ N → (rdl B N cs p).1.1 = 0 → ∀ j, j < cs.length → (cs.getD j 0 = 107 → cl ((rdl B N cs p).2.getD j 0) 3 < 3) ∧ (cs.getD j 0 ≠ 107 → cl ((rdl B N cs p).2.getD j 0) 100 < 100) := by
  intro cs
  induction cs with
  | nil => intro p _ _ j hj; exact absurd hj (Nat.not_lt_zero j)
  | cons ch cs ih =>
    intro p hp hg j hj
    have ht := tk_b hB p hp
    rw [rdl] at hg ⊢
    by_cases c0 : opF B N ch p = 0
    · rw [if_pos c0] at hg ⊢
      cases j with
      | zero => exact opV_b hB ch p hp c0
      | succ j => exact ih (tE B N p) ht.2.2.1 hg j (by simpa using hj)
    · rw [if_neg c0] at hg; exact absurd hg c0
theorem rdl_g {B : Nat → Nat} {N : Nat} (hB : BB B N) (w p : Nat) (hw : w < 11) (hp : p ≤ N) (hg : (rdl B N (csh w) p).1.1 = 0) : GE (w, (rdl B N (csh w) p).2) := by
  have := rdl_v hB (csh w) p hp hg
  refine ⟨hw, fun h => ?_, fun h => ?_⟩
  · subst h
    have e := csh_4
    exact ⟨(this 2 (by rw [e]; decide)).2 (by rw [e]; decide), (this 3 (by rw [e]; decide)).2 (by rw [e]; decide), (this 4 (by rw [e]; decide)).2 (by rw [e]; decide)⟩
  · subst h
    have e := csh_7
    exact (this 2 (by rw [e]; decide)).1 (by rw [e]; decide)
theorem prl_g {B : Nat → Nat} {N : Nat} (hB : BB B N) : ∀ f c p, p ≤ N → ∀ i, i < (prl B N f c p).2.2.length → GE ((prl B N f c p).2.2.getD i (0, [])) := by
  intro f
  induction f with
  | zero => intro c p hp i hi; exact absurd hi (Nat.not_lt_zero i)
  | succ f ih =>
    intro c p hp i hi
    have ht := tk_b hB p hp
    have hw := whW_le B N p
    have hF := rdF_b hB (csh (whW B N p)) (tE B N p) ht.2.2.1
    rw [prl] at hi ⊢
    by_cases c1 : tY B N p = 0
    · rw [if_pos c1] at hi; exact absurd hi (Nat.not_lt_zero i)
    · rw [if_neg c1] at hi ⊢
      by_cases c2 : whW B N p = 11
      · rw [if_pos c2] at hi; exact absurd hi (Nat.not_lt_zero i)
      · rw [if_neg c2] at hi ⊢
        by_cases c3 : c = 60
        · rw [if_pos c3] at hi; exact absurd hi (Nat.not_lt_zero i)
        · rw [if_neg c3] at hi ⊢
          by_cases c4 : (rdF B N (csh (whW B N p)) (tE B N p)).1 = 0
          · rw [if_pos c4] at hi ⊢
            cases i with
            | zero =>
              refine rdl_g hB (whW B N p) (tE B N p) (by omega) ht.2.2.1 ?_
              by_cases g : (rdl B N (csh (whW B N p)) (tE B N p)).1.1 = 0
              · exact g
              · unfold rdF at c4; rw [if_neg g] at c4; exact c4
            | succ i => exact ih (c + 1) _ hF.2 i (by simpa using hi)
          · rw [if_neg c4] at hi; exact absurd hi (Nat.not_lt_zero i)
theorem q_run_l {h : jh} {m : Nat} (tot : Nat) (ht : tot ≤ 60) (K : Nat → jh → Option (Int32 × jh)) (L : Nat → Nat → Int32 → jh → Option (Int32 × jh)) (hL : ∀ f, L (f + 1) = f_X13_spaces_h114 K (L f)) : ∀ (l : List (Nat × List Int32)) i f (s' : ms) (v : vw), i + l.length = tot → l.length + 1 ≤ f → s' 16 0 = nI tot → (∀ t, t < l.length → EN (s' 15) (i + t) (l.getD t (0, []))) → (∀ t, t < l.length → GE (l.getD t (0, []))) → RowV (s' 2) v → OK v → ∃ s'', L f m (nI (6 * i)) (pm h m s') = K m (pm h m s'') ∧ RowV (s'' 2) (runL l v) ∧ ∀ k, k ≠ 2 → k ≠ 17 → s'' k = s' k := by
  intro l
  induction l with
  | nil =>
    intro i f s' v h1 h2 h3 h4 h5 R O
    obtain ⟨f, rfl⟩ : ∃ g, f = g + 1 := ⟨f - 1, by have : ([] : List (Nat × List Int32)).length = 0 := rfl; omega⟩
    have : i = tot := h1
    refine ⟨s', ?_, R, fun _ _ _ => rfl⟩
    rw [hL]
    unfold f_X13_spaces_h114
    rw [pm_gI16, h3, show (6 : Int32) * nI tot = nI (6 * tot) from al_mul 6 tot, if_pos (show nI (6 * tot) ≤ nI (6 * i) by rw [al_le (by omega) (by omega)]; omega)]
  | cons e l ih =>
    intro i f s' v h1 h2 h3 h4 h5 R O
    have hlen : (e :: l).length = l.length + 1 := rfl
    obtain ⟨f, rfl⟩ : ∃ g, f = g + 1 := ⟨f - 1, by omega⟩
    have e0 : EN (s' 15) i e := h4 0 (by omega)
    have G0 : GE e := h5 0 (by omega)
    obtain ⟨s2, k1, k2, k3⟩ := d_does (h := h) (m := m) R O.1 O.2 e.1 (e.2.getD 0 0) (e.2.getD 1 0) (e.2.getD 2 0) (e.2.getD 3 0) (e.2.getD 4 0) G0.1 G0.2.1 G0.2.2
    have O2 : OK (dOl v e.1 e.2).2 := OK_do O _ _ _ _ _ _
    obtain ⟨s3, n1, n2, n3⟩ := ih (i + 1) f s2 (dOl v e.1 e.2).2 (by omega) (by omega) (by rw [k2 16 (by decide) (by decide)]; exact h3) (fun t ht => by rw [k2 15 (by decide) (by decide), show i + 1 + t = i + (t + 1) by omega]; exact h4 (t + 1) (by omega)) (fun t ht => h5 (t + 1) (by omega)) k3 O2
    refine ⟨s3, ?_, n2, fun k g1 g2 => (n3 k g1 g2).trans (k2 k g1 g2)⟩
    have at_ : ∀ (j : Nat) (G : Int32 → Option (Int32 × jh)), j < 360 → aI (pm h m s') (m + 5) (nI j) G = G (s' 15 j) := fun j G hj => by rw [pm_aI15, if_neg (al_in hj (by decide)), al_cl (by omega)]
    have E := e0.2
    rw [hL]
    unfold f_X13_spaces_h114
    rw [pm_gI16, h3, show (6 : Int32) * nI tot = nI (6 * tot) from al_mul 6 tot, if_neg (show ¬ nI (6 * tot) ≤ nI (6 * i) by rw [al_le (by omega) (by omega)]; omega), pm_gR15, at_ _ _ (by omega), e0.1, pm_gR15, show nI (6 * i) + (1 : Int32) = nI (6 * i + 1 + 0) from al_add _ 1, at_ _ _ (by omega), E 0 (by decide), pm_gR15, show nI (6 * i) + (2 : Int32) = nI (6 * i + 1 + 1) from al_add _ 2, at_ _ _ (by omega), E 1 (by decide), pm_gR15, show nI (6 * i) + (3 : Int32) = nI (6 * i + 1 + 2) from al_add _ 3, at_ _ _ (by omega), E 2 (by decide), pm_gR15, show nI (6 * i) + (4 : Int32) = nI (6 * i + 1 + 3) from al_add _ 4, at_ _ _ (by omega), E 3 (by decide), pm_gR15, show nI (6 * i) + (5 : Int32) = nI (6 * i + 1 + 4) from al_add _ 5, at_ _ _ (by omega), E 4 (by decide), pm_cV, k1, bd_some, show nI (6 * i) + (6 : Int32) = nI (6 * (i + 1)) from al_add _ 6]
    exact n1
theorem r_spaces {h : jh} {m : Nat} {s : ms} {T : ta} {hi : Bool} {TI : ta} {fl : Int32} {n : Nat} {tp : Nat → Int32} (R : RS s T hi TI fl n tp) (hT : TO T) (hb : BY n tp) (N : Nat) (hN : N ≤ n) : ∃ s', f_X13_spaces m (nI N) (pm h m s) = some (nI (prl (Byt tp N) N 61 0 0).1, pm h m s') ∧ s' 1 0 = nI 0 ∧ RS s' (tSp T (prl (Byt tp N) N 61 0 0)) (if (prl (Byt tp N) N 61 0 0).1 = 0 then false else hi) TI (if (prl (Byt tp N) N 61 0 0).1 = 0 then nm1 else nI (prl (Byt tp N) N 61 0 0).2.1) 0 tp := by
  obtain ⟨f0, hf0⟩ := jfu_s
  have hB := Bt_b hb hN
  have h9 := hb.1
  have hG := prl_g hB 61 0 0 (Nat.zero_le _)
  have hP := prl_b hB 61 0 0 (Nat.zero_le _)
  unfold f_X13_spaces
  rw [pm_pV1, if_neg (show ¬ nI N < 0 by rw [al_neg (by omega)]; exact id), pm_gI5, show st2 s 1 0 0 5 0 = nI n from R.tn, if_pos (show nI N ≤ nI n by rw [al_le (by omega) (by omega)]; exact hN), pm_pV5, pm_pV7, pm_pV6, pm_pV12, pm_pV14, pm_pV16, pm_cV]
  generalize hs0 : st2 (st2 (st2 (st2 (st2 (st2 (st2 s 1 0 0) 5 0 0) 7 0 (nI N)) 6 0 0) 12 0 0) 14 0 (-1)) 16 0 0 = s0
  have o0 : ∀ k, k ≠ 1 → k ≠ 5 → k ≠ 6 → k ≠ 7 → k ≠ 12 → k ≠ 14 → k ≠ 16 → s0 k = s k := by
    intro k a1 a2 a3 a4 a5 a6 a7
    rw [← hs0, st2_row a7, st2_row a6, st2_row a5, st2_row a3, st2_row a4, st2_row a2, st2_row a1]
  have z1 : s0 1 0 = nI 0 := by rw [← hs0]; rfl
  have z5 : s0 5 0 = nI 0 := by rw [← hs0]; rfl
  have z6 : s0 6 0 = nI 0 := by rw [← hs0]; rfl
  have z7 : s0 7 0 = nI N := by rw [← hs0]; rfl
  have z12 : s0 12 0 = 0 := by rw [← hs0]; rfl
  have z14 : s0 14 0 = nm1 := by rw [← hs0]; rfl
  have z16 : s0 16 0 = nI 0 := by rw [← hs0]; rfl
  have z4 : ∀ j, j < N → s0 4 j = nI (Byt tp N j) := by
    intro j hj
    rw [o0 4 (by decide) (by decide) (by decide) (by decide) (by decide) (by decide) (by decide), R.tt j (by omega)]
    show _ = nI (if j < N then cl (tp j) 256 else 300)
    rw [if_pos hj]
    exact (Bt_e hb j (by omega)).1
  have id0 := rq_id s0
  rw [z6, z12, z16] at id0
  obtain ⟨v1, k1, k2⟩ := q_step (h := h) (m := m) (s := s0) (y := s0 8 0) (v := s0 9 0) (b := s0 10 0) (e := s0 11 0) (o := 0) (q := s0 13 0) (c := s0 15) (k := nI 0) hB z7 z4 0 (Nat.zero_le _)
  rw [id0] at k1
  rw [k1, bd_some]
  have S1 : SN (Byt tp N) N s0 (rq s0 (nI (tE (Byt tp N) N 0)) (nI (tY (Byt tp N) N 0)) v1 (nI (tS (Byt tp N) N 0)) (nI (tE (Byt tp N) N 0)) 0 (s0 13 0) (s0 15) (nI 0)) (0, 0) (s0 15) (nI 0) := ⟨_, _, _, _, _, _, _, rfl, fun _ => ⟨rfl, rfl, rfl, rfl, rfl, k2⟩, fun g => absurd rfl g, Nat.zero_le _, Nat.zero_le _⟩
  obtain ⟨s2, c2, kk2, r2, a1, a2, a3, a4, a5⟩ := q_rd_l (h := h) (m := m) hB z7 z4 (fun y20 h19 => f_X13_spaces_b78 y20 h19) (jlp1 (f_X13_spaces_h57 (fun y20 h19 => f_X13_spaces_b78 y20 h19))) (fun _ => rfl) 61 0 0 jfu (s0 15) _ (by omega) (by omega) (by omega) S1
  generalize prl (Byt tp N) N 61 0 0 = P at a3 a4 a5 hG hP ⊢
  have o2 : ∀ k, k ≠ 6 → k ≠ 8 → k ≠ 9 → k ≠ 10 → k ≠ 11 → k ≠ 12 → k ≠ 13 → k ≠ 15 → k ≠ 16 → s2 k = s0 k := by
    obtain ⟨a, y, v, b, e, o, q, rfl, -⟩ := a2
    intro k b1 b2 b3 b4 b5 b6 b7 b8 b9
    exact rq_ne k ⟨b1, b2, b3, b4, b5, b6, b7, b8, b9⟩
  have i12 : (r2.1 = 0 → s2 12 0 = 0) ∧ (r2.1 ≠ 0 → s2 12 0 = nI r2.1 ∧ s2 13 0 = nI r2.2) ∧ s2 15 = c2 ∧ s2 16 0 = kk2 := by
    obtain ⟨a, y, v, b, e, o, q, rfl, g1, g2, g3, g4⟩ := a2
    exact ⟨fun h => (g1 h).2.2.2.2.1, fun h => g2 h, rfl, rfl⟩
  obtain ⟨i1, i2, i3, i4⟩ := i12
  have goal78 : ∃ s', f_X13_spaces_b78 m (pm h m s2) = some (nI P.1, pm h m s') ∧ s' 1 0 = nI 0 ∧ RS s' (tSp T P) (if P.1 = 0 then false else hi) TI (if P.1 = 0 then nm1 else nI P.2.1) 0 tp := by
    unfold f_X13_spaces_b78 tSp
    rw [pm_gI12]
    by_cases c0 : P.1 = 0
    · have r0 : r2.1 = 0 := a3.trans c0
      obtain ⟨t1, t2, t3, t4⟩ := a5 r0
      rw [i1 r0, if_pos rfl, if_pos c0, if_pos c0, if_pos c0, c0]
      obtain ⟨n3, l1, l2⟩ := d_lay (h := h) (m := m) (s := s2)
      rw [pm_cV, l1, bd_some]
      rw [Nat.zero_add] at t1 t2
      obtain ⟨s4, u1, u2, u3⟩ := q_run_l (h := h) (m := m) P.2.2.length t2 (fun y41 h40 => pV h40 y41 11 18 (.int (0)) fun h42 => pV h42 y41 11 22 (.int (0)) fun h43 => pV h43 y41 11 27 (.int (0)) fun h44 => some (0, h44)) (jlp2 (f_X13_spaces_h114 (fun y41 h40 => pV h40 y41 11 18 (.int (0)) fun h42 => pV h42 y41 11 22 (.int (0)) fun h43 => pV h43 y41 11 27 (.int (0)) fun h44 => some (0, h44)))) (fun _ => rfl) P.2.2 0 jfu (sw s2 2 n3) v0 (by omega) (by omega) (by rw [sw_ne _ _ _ _ (by decide), i4]; exact t1) (fun t ht => by rw [sw_ne _ _ _ _ (by decide), i3]; exact t4 t ht) hG (by rw [sw_eq]; exact l2) OK_0
      have e3 : ∀ k, k ≠ 2 → k ≠ 17 → s4 k = s2 k := fun k g1 g2 => by rw [u3 k g1 g2, sw_ne _ _ _ _ g1]
      refine ⟨st2 (st2 (st2 s4 18 0 0) 22 0 0) 27 0 0, ?_, ?_, ?_⟩
      · refine Eq.trans u1 ?_
        rw [pm_pV18, pm_pV22, pm_pV27]
        rfl
      · rw [st2_row (by decide), st2_row (by decide), st2_row (by decide), e3 1 (by decide) (by decide), o2 1 (by decide) (by decide) (by decide) (by decide) (by decide) (by decide) (by decide) (by decide) (by decide)]; exact z1
      · have ro : ∀ k, k ≠ 18 → k ≠ 22 → k ≠ 27 → (st2 (st2 (st2 s4 18 0 0) 22 0 0) 27 0 0) k = s4 k := fun k b1 b2 b3 => by rw [st2_row b3, st2_row b2, st2_row b1]
        refine ⟨?_, rfl, fun i hi => absurd hi (Nat.not_lt_zero i), rfl, fun i hi => absurd hi (Nat.not_lt_zero i), ?_, rfl, (fun h => by cases h), ?_, ?_, fun i hi => absurd hi (Nat.not_lt_zero i)⟩
        · rw [ro 2 (by decide) (by decide) (by decide)]; exact u2
        · intro j hj
          rw [ro 3 (by decide) (by decide) (by decide), e3 3 (by decide) (by decide), o2 3 (by decide) (by decide) (by decide) (by decide) (by decide) (by decide) (by decide) (by decide) (by decide), o0 3 (by decide) (by decide) (by decide) (by decide) (by decide) (by decide) (by decide)]
          exact R.st j hj
        · rw [ro 14 (by decide) (by decide) (by decide), e3 14 (by decide) (by decide), o2 14 (by decide) (by decide) (by decide) (by decide) (by decide) (by decide) (by decide) (by decide) (by decide)]; exact z14
        · rw [ro 5 (by decide) (by decide) (by decide), e3 5 (by decide) (by decide), o2 5 (by decide) (by decide) (by decide) (by decide) (by decide) (by decide) (by decide) (by decide) (by decide)]; exact z5
    · have r0 : r2.1 ≠ 0 := fun g => c0 (a3.symm.trans g)
      obtain ⟨j1, j2⟩ := i2 r0
      rw [j1, if_neg (show ¬ nI r2.1 = 0 from fun g => r0 (by rw [show (0 : Int32) = nI 0 from rfl, al_eq (by omega) (by omega)] at g; exact g)), if_neg c0, if_neg c0, if_neg c0, pm_gI13, j2, pm_pV14, pm_gR3, pm_aI3, if_neg (show ¬ ((0 : Int32) < 0 ∨ 3 ≤ (0 : Int32).toNatClampNeg) by decide), pm_sI3, if_neg (show ¬ ((0 : Int32) < 0 ∨ 3 ≤ (0 : Int32).toNatClampNeg) by decide), pm_gI12]
      have ro : ∀ k, k ≠ 3 → k ≠ 14 → (st2 (st2 s2 14 0 (nI r2.2)) 3 (Int32.toNatClampNeg 0) (st2 s2 14 0 (nI r2.2) 3 (Int32.toNatClampNeg 0) + 1)) k = s2 k := fun k b1 b2 => by rw [st2_row b1, st2_row b2]
      have e3 : ∀ k, k ≠ 1 → k ≠ 5 → k ≠ 6 → k ≠ 7 → k ≠ 8 → k ≠ 9 → k ≠ 10 → k ≠ 11 → k ≠ 12 → k ≠ 13 → k ≠ 14 → k ≠ 15 → k ≠ 16 → s2 k = s k := fun k b1 b2 b3 b4 b5 b6 b7 b8 b9 b10 b11 b12 b13 => by rw [o2 k b3 b5 b6 b7 b8 b9 b10 b12 b13, o0 k b1 b2 b3 b4 b9 b11 b13]
      refine ⟨_, by rw [ro 12 (by decide) (by decide), j1, a3], ?_, ?_⟩
      · rw [ro 1 (by decide) (by decide), o2 1 (by decide) (by decide) (by decide) (by decide) (by decide) (by decide) (by decide) (by decide) (by decide)]; exact z1
      · refine ⟨?_, ?_, ?_, ?_, ?_, ?_, ?_, ?_, ?_, ?_, fun i hi => absurd hi (Nat.not_lt_zero i)⟩
        · rw [ro 2 (by decide) (by decide), e3 2 (by decide) (by decide) (by decide) (by decide) (by decide) (by decide) (by decide) (by decide) (by decide) (by decide) (by decide) (by decide) (by decide)]; exact R.row
        · rw [ro 18 (by decide) (by decide), e3 18 (by decide) (by decide) (by decide) (by decide) (by decide) (by decide) (by decide) (by decide) (by decide) (by decide) (by decide) (by decide) (by decide)]; exact R.ac
        · rw [ro 19 (by decide) (by decide), e3 19 (by decide) (by decide) (by decide) (by decide) (by decide) (by decide) (by decide) (by decide) (by decide) (by decide) (by decide) (by decide) (by decide)]; exact R.pa
        · rw [ro 22 (by decide) (by decide), e3 22 (by decide) (by decide) (by decide) (by decide) (by decide) (by decide) (by decide) (by decide) (by decide) (by decide) (by decide) (by decide) (by decide)]; exact R.nn
        · rw [ro 23 (by decide) (by decide), ro 24 (by decide) (by decide), ro 25 (by decide) (by decide), e3 23 (by decide) (by decide) (by decide) (by decide) (by decide) (by decide) (by decide) (by decide) (by decide) (by decide) (by decide) (by decide) (by decide), e3 24 (by decide) (by decide) (by decide) (by decide) (by decide) (by decide) (by decide) (by decide) (by decide) (by decide) (by decide) (by decide) (by decide), e3 25 (by decide) (by decide) (by decide) (by decide) (by decide) (by decide) (by decide) (by decide) (by decide) (by decide) (by decide) (by decide) (by decide)]
          intro j hj
          show s 23 j = rfs T.2.2.2.2 0 0 j ∧ s 24 j = rfs T.2.2.2.2 0 1 j ∧ s 25 j = rfs T.2.2.2.2 0 2 j
          rw [rfs_ne _ _ _ (by decide), rfs_ne _ _ _ (by decide), rfs_ne _ _ _ (by decide)]
          exact R.nt j hj
        · intro j hj
          rw [st2_up, st2_row (show 3 ≠ 14 by decide), e3 3 (by decide) (by decide) (by decide) (by decide) (by decide) (by decide) (by decide) (by decide) (by decide) (by decide) (by decide) (by decide) (by decide)]
          exact rfs_st 0 R.st (by decide) j hj
        · rw [ro 27 (by decide) (by decide), e3 27 (by decide) (by decide) (by decide) (by decide) (by decide) (by decide) (by decide) (by decide) (by decide) (by decide) (by decide) (by decide) (by decide)]; exact R.ih
        · intro g
          exact RImg_k (R.im g) (fun k hk => by rw [ro k (by omega) (by omega), e3 k (by omega) (by omega) (by omega) (by omega) (by omega) (by omega) (by omega) (by omega) (by omega) (by omega) (by omega) (by omega) (by omega)])
        · rw [st2_row (show 14 ≠ 3 by decide), st2_up, ← a4 r0]; exact if_pos rfl
        · rw [ro 5 (by decide) (by decide), o2 5 (by decide) (by decide) (by decide) (by decide) (by decide) (by decide) (by decide) (by decide) (by decide)]; exact z5
  obtain ⟨s5, w1, w2⟩ := goal78
  exact ⟨s5, a1.trans w1, w2⟩
theorem r_spacesX {h : jh} {m : Nat} {s : ms} {T : ta} {hi : Bool} {TI : ta} {fl : Int32} {n : Nat} {tp : Nat → Int32} (R : RS s T hi TI fl n tp) (hT : TO T) (hb : BY n tp) (a : Int32) (ha : a < 0 ∨ nI (n + 1) ≤ a) : rA h m s (f_X13_spaces m a (pm h m s)) (1, nI 0) := by
  have h9 := hb.1
  unfold f_X13_spaces
  refine ra_in fun s1 h0 e1 ee => ?_
  have b17 : rA h m s1 (f_X13_spaces_b17 m (pm h m s1)) (1, nI 0) := ra_fail 1
  by_cases h0 : a < 0
  · rw [if_pos h0]; exact b17
  · rw [if_neg h0, pm_gI5, ee 5 (by decide), R.tn, if_neg (fun h => ?_)]
    · exact b17
    · rcases ha with ha | ha
      · exact h0 ha
      · have := Int32.le_trans ha h
        rw [al_le (by omega) (by omega)] at this
        omega
