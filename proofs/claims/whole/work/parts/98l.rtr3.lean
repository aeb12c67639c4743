/-! the tape; images: the reference -/
def byt (w : Int32) (k : Nat) : Int32 := (w >>> (nI (24 - 8 * k) &&& nI 31)) &&& nI 255
def fdb (a b c d e : Int32) (i : Nat) : Int32 := byt (if i < 4 then a else if i < 8 then b else if i < 12 then c else if i < 16 then d else e) (i % 4)
def fdT (tp : Nat → Int32) (n : Nat) (a b c d e : Int32) : Nat → Int32 := fun j => if j < n then tp j else fdb a b c d e (j - n)
def BY (n : Nat) (tp : Nat → Int32) : Prop := n ≤ 900 ∧ ∀ j, j < n → ∃ b : Nat, b < 256 ∧ tp j = nI b
theorem byt_b (w : Int32) (k : Nat) : ∃ b : Nat, b < 256 ∧ byt w k = nI b := by
  obtain ⟨j, h1, h2⟩ := pk_andE (w >>> (nI (24 - 8 * k) &&& nI 31)) (m := nI 255) 8 (by decide)
  exact ⟨j, h1, h2⟩
theorem BY_fd {n : Nat} {tp : Nat → Int32} (h : BY n tp) (hn : n + 20 ≤ 900) (a b c d e : Int32) : BY (n + 20) (fdT tp n a b c d e) := by
  refine ⟨hn, fun j hj => ?_⟩
  unfold fdT
  by_cases h1 : j < n
  · rw [if_pos h1]; exact h.2 j h1
  · rw [if_neg h1]; exact byt_b _ _
theorem t_feed_l {h : jh} {m : Nat} (n : Nat) (hn : n + 20 ≤ 900) (a b c d e : Int32) (K : Nat → jh → Option (Int32 × jh)) (L : Nat → Nat → Int32 → Int32 → Int32 → Int32 → Int32 → Int32 → jh → Option (Int32 × jh)) (hL : ∀ f, L (f + 1) = f_X13_feed_h23 K (L f)) : ∀ k i f (s : ms), i + k = 20 → k + 1 ≤ f → s 5 0 = nI (n + i) → ∃ s', L f m a b c d e (nI i) (pm h m s) = K m (pm h m s') ∧ (∀ q, q ≠ 4 → q ≠ 5 → s' q = s q) ∧ s' 5 0 = nI (n + 20) ∧ (∀ j, j < n + i → s' 4 j = s 4 j) ∧ ∀ j, i ≤ j → j < 20 → s' 4 (n + j) = fdb a b c d e j := by
  intro k
  induction k with
  | zero =>
    intro i f s hi hf h5
    obtain ⟨f, rfl⟩ : ∃ g, f = g + 1 := ⟨f - 1, by omega⟩
    refine ⟨s, ?_, fun _ _ _ => rfl, by rw [h5, show i = 20 by omega], fun _ _ => rfl, fun j h1 h2 => by omega⟩
    rw [hL]
    unfold f_X13_feed_h23
    rw [if_pos (show (20 : Int32) ≤ nI i by rw [show (20 : Int32) = nI 20 from rfl, al_le (by omega) (by omega)]; omega)]
  | succ k ih =>
    intro i f s hi hf h5
    obtain ⟨f, rfl⟩ : ∃ g, f = g + 1 := ⟨f - 1, by omega⟩
    have one : ∀ w : Int32, w = (if i < 4 then a else if i < 8 then b else if i < 12 then c else if i < 16 then d else e) → ∃ s', f_X13_feed_b76 (L f) K m a b c d e (nI i) w (pm h m s) = K m (pm h m s') ∧ (∀ q, q ≠ 4 → q ≠ 5 → s' q = s q) ∧ s' 5 0 = nI (n + 20) ∧ (∀ j, j < n + i → s' 4 j = s 4 j) ∧ ∀ j, i ≤ j → j < 20 → s' 4 (n + j) = fdb a b c d e j := by
      intro w hw
      have d1 : nI i / 4 = nI (i / 4) := pk_div (a := i) (d := 4) (by omega) (by omega) (by omega)
      have d2 : (24 : Int32) - 8 * (nI i - nI (i / 4) * 4) = nI (24 - 8 * (i % 4)) := by
        rw [show nI (i / 4) * 4 = nI (i / 4 * 4) from al_mul _ 4, al_sub (by omega), show i - i / 4 * 4 = i % 4 by omega, show (8 : Int32) * nI (i % 4) = nI (8 * (i % 4)) from al_mul 8 _, show (24 : Int32) = nI 24 from rfl, al_sub (by omega)]
      unfold f_X13_feed_b76
      rw [d1, d2, pm_gR4, pm_gI5, h5, wr4 _ _ _ _ _ _ (by omega), st2_sw]
      generalize hs2 : sw s 4 (upd (s 4) (n + i) ((w >>> (nI (24 - 8 * (i % 4)) &&& 31)) &&& 255)) = s2
      have t2 : ∀ k, k ≠ 4 → s2 k = s k := fun k hk => by rw [← hs2]; exact sw_ne _ _ _ _ hk
      have t4 : s2 4 = upd (s 4) (n + i) (fdb a b c d e i) := by
        rw [← hs2, sw_eq]
        unfold fdb
        rw [← hw]
        rfl
      have f5 : s2 5 0 = nI (n + i) := by rw [t2 5 (by decide)]; exact h5
      rw [pm_gI5, f5, pm_pV5, st2_sw, show nI (n + i) + (1 : Int32) = nI (n + (i + 1)) by rw [show (1 : Int32) = nI 1 from rfl, al_add, Nat.add_assoc], show nI i + (1 : Int32) = nI (i + 1) from al_add i 1]
      obtain ⟨s', e1, e2, e3, e4, e5⟩ := ih (i + 1) f (sw s2 5 (upd (s2 5) 0 (nI (n + (i + 1))))) (by omega) (by omega) (by rw [sw_eq]; exact if_pos rfl)
      have t4' : sw s2 5 (upd (s2 5) 0 (nI (n + (i + 1)))) 4 = upd (s 4) (n + i) (fdb a b c d e i) := by rw [sw_ne _ _ _ _ (by decide), t4]
      rw [t4'] at e4
      refine ⟨s', e1, fun q g1 g2 => by rw [e2 q g1 g2, sw_ne _ _ _ _ g2, t2 q g1], e3, fun j hj => ?_, fun j g1 g2 => ?_⟩
      · rw [e4 j (by omega)]; exact if_neg (by omega)
      · by_cases ej : j = i
        · rw [ej, e4 _ (by omega)]; exact if_pos rfl
        · exact e5 j (by omega) g2
    rw [hL]
    unfold f_X13_feed_h23
    rw [if_neg (show ¬ (20 : Int32) ≤ nI i by rw [show (20 : Int32) = nI 20 from rfl, al_le (by omega) (by omega)]; omega)]
    have cmp : ∀ q : Nat, q < 100 → (((OfNat.ofNat q : Int32) ≤ nI i) = (q ≤ i)) := fun q hq => al_le (by omega) (by omega)
    by_cases h4 : 4 ≤ i
    · rw [if_pos (by rw [cmp 4 (by decide)]; exact h4)]
      by_cases h8 : 8 ≤ i
      · rw [if_pos (by rw [cmp 8 (by decide)]; exact h8)]
        by_cases h12 : 12 ≤ i
        · rw [if_pos (by rw [cmp 12 (by decide)]; exact h12)]
          by_cases h16 : 16 ≤ i
          · rw [if_pos (by rw [cmp 16 (by decide)]; exact h16)]
            exact one e (by rw [if_neg (by omega), if_neg (by omega), if_neg (by omega), if_neg (by omega)])
          · rw [if_neg (by rw [cmp 16 (by decide)]; exact h16)]
            exact one d (by rw [if_neg (by omega), if_neg (by omega), if_neg (by omega), if_pos (by omega)])
        · rw [if_neg (by rw [cmp 12 (by decide)]; exact h12)]
          exact one c (by rw [if_neg (by omega), if_neg (by omega), if_pos (by omega)])
      · rw [if_neg (by rw [cmp 8 (by decide)]; exact h8)]
        exact one b (by rw [if_neg (by omega), if_pos (by omega)])
    · rw [if_neg (by rw [cmp 4 (by decide)]; exact h4)]
      exact one a (by rw [if_pos (by omega)])
theorem r_feed {h : jh} {m : Nat} {s : ms} {T : ta} {hi : Bool} {TI : ta} {fl : Int32} {n : Nat} {tp : Nat → Int32} (R : RS s T hi TI fl n tp) (hT : TO T) (hn9 : n ≤ 900) (a b c d e : Int32) : rB h m (f_X13_feed m a b c d e (pm h m s)) (if n + 20 ≤ 900 then nI (n + 20) else nm1) T hi TI fl (if n + 20 ≤ 900 then n + 20 else n) (if n + 20 ≤ 900 then fdT tp n a b c d e else tp) := by
  obtain ⟨f0, hf0⟩ := jfu_s
  unfold f_X13_feed
  refine rs_in R hT (fun s1 R1 => ?_)
  have e5 := R1.tn
  rw [pm_gI5, e5, show nI n + (20 : Int32) = nI (n + 20) from al_add n 20]
  by_cases h9 : n + 20 ≤ 900
  · rw [if_pos (show nI (n + 20) ≤ 900 by rw [show (900 : Int32) = nI 900 from rfl, al_le (by omega) (by omega)]; exact h9), if_pos h9, if_pos h9, if_pos h9]
    obtain ⟨s', g1, g2, g3, g4, g5⟩ := t_feed_l (h := h) (m := m) n h9 a b c d e (fun y15 h14 => gI h14 y15 11 5 fun v16 => some (v16, h14)) (jlp7 (f_X13_feed_h23 (fun y15 h14 => gI h14 y15 11 5 fun v16 => some (v16, h14)))) (fun _ => rfl) 20 0 jfu s1 (by omega) (by omega) e5
    refine ⟨s', ?_, ?_⟩
    · refine Eq.trans g1 ?_
      show (gI (pm h m s') m 11 5 fun v16 => _) = _
      rw [pm_gI5, g3]
    · refine ⟨?_, ?_, ?_, ?_, ?_, ?_, ?_, ?_, ?_, g3, ?_⟩
      · rw [g2 2 (by decide) (by decide)]; exact R1.row
      · rw [g2 18 (by decide) (by decide)]; exact R1.ac
      · rw [g2 19 (by decide) (by decide)]; exact R1.pa
      · rw [g2 22 (by decide) (by decide)]; exact R1.nn
      · rw [g2 23 (by decide) (by decide), g2 24 (by decide) (by decide), g2 25 (by decide) (by decide)]; exact R1.nt
      · rw [g2 3 (by decide) (by decide)]; exact R1.st
      · rw [g2 27 (by decide) (by decide)]; exact R1.ih
      · intro h; exact RImg_k (R1.im h) (fun k hk => g2 k (by omega) (by omega))
      · rw [g2 14 (by decide) (by decide)]; exact R1.fa
      · intro j hj
        unfold fdT
        by_cases h1 : j < n
        · rw [if_pos h1, g4 j (by omega)]; exact R1.tt j h1
        · rw [if_neg h1]
          have := g5 (j - n) (Nat.zero_le _) (by omega)
          rw [show n + (j - n) = j by omega] at this
          exact this
  · rw [if_neg (show ¬ nI (n + 20) ≤ 900 by rw [show (900 : Int32) = nI 900 from rfl, al_le (by omega) (by omega)]; exact h9), if_neg h9, if_neg h9, if_neg h9]
    exact rb_ok R1 _
theorem r_fault {h : jh} {m : Nat} {s : ms} {T : ta} {hi : Bool} {TI : ta} {fl : Int32} {n : Nat} {tp : Nat → Int32} (R : RS s T hi TI fl n tp) (hT : TO T) : rB h m (f_X13_fault m (pm h m s)) fl T hi TI fl n tp := by
  unfold f_X13_fault
  refine rs_in R hT (fun s1 R1 => ?_)
  rw [pm_gI14, R1.fa]
  exact rb_ok R1 _
/-! images -/
theorem r_image {h : jh} {m : Nat} {s : ms} {T : ta} {hi : Bool} {TI : ta} {fl : Int32} {n : Nat} {tp : Nat → Int32} (R : RS s T hi TI fl n tp) (hT : TO T) : rB h m (f_X13_image m (pm h m s)) () T true T fl n tp := by
  have hB := hT.1.1.bd
  unfold f_X13_image
  refine rs_in R hT (fun s1 R1 => ?_)
  rw [pm_pV27, st2_sw]
  generalize hs2 : sw s1 27 (upd (s1 27) 0 1) = s2
  have t2 : ∀ k, k ≠ 27 → s2 k = s1 k := fun k hk => by rw [← hs2]; exact sw_ne _ _ _ _ hk
  have v2 : s2 27 0 = bn true := by rw [← hs2, sw_eq]; exact if_pos rfl
  rw [pm_gI18, pm_pV28, st2_sw]
  generalize hs3 : sw s2 28 (upd (s2 28) 0 (s2 18 0)) = s3
  have t3 : ∀ k, k ≠ 28 → s3 k = s2 k := fun k hk => by rw [← hs3]; exact sw_ne _ _ _ _ hk
  have v3 : s3 28 0 = s2 18 0 := by rw [← hs3, sw_eq]; exact if_pos rfl
  rw [pm_gI22, pm_pV29, st2_sw]
  generalize hs4 : sw s3 29 (upd (s3 29) 0 (s3 22 0)) = s4
  have t4 : ∀ k, k ≠ 29 → s4 k = s3 k := fun k hk => by rw [← hs4]; exact sw_ne _ _ _ _ hk
  have v4 : s4 29 0 = s3 22 0 := by rw [← hs4, sw_eq]; exact if_pos rfl
  obtain ⟨r5, a5, b5⟩ := t_cp13_2 h m s4
  rw [pm_gR30, pm_gR2, a5, bd_some]
  generalize hs5 : sw s4 30 r5 = s5
  have t5 : ∀ k, k ≠ 30 → s5 k = s4 k := fun k hk => by rw [← hs5]; exact sw_ne _ _ _ _ hk
  have v5 : s5 30 = r5 := by rw [← hs5, sw_eq]
  obtain ⟨r6, a6, b6⟩ := t_cp14_7 h m s5
  rw [pm_gR31, pm_gR19, a6, bd_some]
  generalize hs6 : sw s5 31 r6 = s6
  have t6 : ∀ k, k ≠ 31 → s6 k = s5 k := fun k hk => by rw [← hs6]; exact sw_ne _ _ _ _ hk
  have v6 : s6 31 = r6 := by rw [← hs6, sw_eq]
  obtain ⟨r7, a7, b7⟩ := t_cp15_10 h m s6
  rw [pm_gR32, pm_gR23, a7, bd_some]
  generalize hs7 : sw s6 32 r7 = s7
  have t7 : ∀ k, k ≠ 32 → s7 k = s6 k := fun k hk => by rw [← hs7]; exact sw_ne _ _ _ _ hk
  have v7 : s7 32 = r7 := by rw [← hs7, sw_eq]
  obtain ⟨r8, a8, b8⟩ := t_cp16_11 h m s7
  rw [pm_gR33, pm_gR24, a8, bd_some]
  generalize hs8 : sw s7 33 r8 = s8
  have t8 : ∀ k, k ≠ 33 → s8 k = s7 k := fun k hk => by rw [← hs8]; exact sw_ne _ _ _ _ hk
  have v8 : s8 33 = r8 := by rw [← hs8, sw_eq]
  obtain ⟨r9, a9, b9⟩ := t_cp17_12 h m s8
  rw [pm_gR34, pm_gR25, a9, bd_some]
  generalize hs9 : sw s8 34 r9 = s9
  have t9 : ∀ k, k ≠ 34 → s9 k = s8 k := fun k hk => by rw [← hs9]; exact sw_ne _ _ _ _ hk
  have v9 : s9 34 = r9 := by rw [← hs9, sw_eq]
  obtain ⟨r10, a10, b10⟩ := t_cp18_3 h m s9
  rw [pm_gR35, pm_gR3, a10, bd_some]
  generalize hs10 : sw s9 35 r10 = s10
  have t10 : ∀ k, k ≠ 35 → s10 k = s9 k := fun k hk => by rw [← hs10]; exact sw_ne _ _ _ _ hk
  have v10 : s10 35 = r10 := by rw [← hs10, sw_eq]
  have e : ∀ k, k < 27 → s10 k = s1 k := fun k hk => by rw [t10 k (by omega), t9 k (by omega), t8 k (by omega), t7 k (by omega), t6 k (by omega), t5 k (by omega), t4 k (by omega), t3 k (by omega), t2 k (by omega)]
  have h8 := hT.2.2.2.1
  have h40 := hT.2.1
  refine ⟨s10, rfl, ?_, ?_, ?_, ?_, ?_, ?_, ?_, ?_, ?_, ?_, ?_⟩
  · rw [e 2 (by decide)]; exact R1.row
  · rw [e 18 (by decide)]; exact R1.ac
  · rw [e 19 (by decide)]; exact R1.pa
  · rw [e 22 (by decide)]; exact R1.nn
  · rw [e 23 (by decide), e 24 (by decide), e 25 (by decide)]; exact R1.nt
  · rw [e 3 (by decide)]; exact R1.st
  · rw [t10 27 (by decide), t9 27 (by decide), t8 27 (by decide), t7 27 (by decide), t6 27 (by decide), t5 27 (by decide), t4 27 (by decide), t3 27 (by decide)]; exact v2
  · intro _
    refine ⟨?_, ?_, ?_, ?_, ?_, ?_⟩
    · rw [t10 30 (by decide), t9 30 (by decide), t8 30 (by decide), t7 30 (by decide), t6 30 (by decide), v5]
      refine RowV_cg R1.row hB (fun j hj => ?_)
      rw [b5 j hj, t4 2 (by decide), t3 2 (by decide), t2 2 (by decide)]
    · rw [t10 28 (by decide), t9 28 (by decide), t8 28 (by decide), t7 28 (by decide), t6 28 (by decide), t5 28 (by decide), t4 28 (by decide), v3, t2 18 (by decide)]; exact R1.ac
    · rw [t10 31 (by decide), t9 31 (by decide), t8 31 (by decide), t7 31 (by decide), v6]
      intro i hi1
      refine RowV_cg (R1.pa i hi1) (hT.2.2.1 i hi1).1.bd (fun j hj => ?_)
      rw [b6 _ (by omega), t5 19 (by decide), t4 19 (by decide), t3 19 (by decide), t2 19 (by decide)]
    · rw [t10 29 (by decide), t9 29 (by decide), t8 29 (by decide), t7 29 (by decide), t6 29 (by decide), t5 29 (by decide), v4, t3 22 (by decide), t2 22 (by decide)]; exact R1.nn
    · rw [t10 32 (by decide), t9 32 (by decide), t8 32 (by decide), v7, t10 33 (by decide), t9 33 (by decide), v8, t10 34 (by decide), v9]
      intro j hj
      rw [b7 j (by omega), b8 j (by omega), b9 j (by omega), t6 23 (by decide), t5 23 (by decide), t4 23 (by decide), t3 23 (by decide), t2 23 (by decide), t7 24 (by decide), t6 24 (by decide), t5 24 (by decide), t4 24 (by decide), t3 24 (by decide), t2 24 (by decide), t8 25 (by decide), t7 25 (by decide), t6 25 (by decide), t5 25 (by decide), t4 25 (by decide), t3 25 (by decide), t2 25 (by decide)]
      exact R1.nt j hj
    · rw [v10]
      intro j hj
      rw [b10 j hj, t9 3 (by decide), t8 3 (by decide), t7 3 (by decide), t6 3 (by decide), t5 3 (by decide), t4 3 (by decide), t3 3 (by decide), t2 3 (by decide)]
      exact R1.st j hj
  · rw [e 14 (by decide)]; exact R1.fa
  · rw [e 5 (by decide)]; exact R1.tn
  · rw [e 4 (by decide)]; exact R1.tt
theorem r_restore {h : jh} {m : Nat} {s : ms} {T : ta} {hi : Bool} {TI : ta} {fl : Int32} {n : Nat} {tp : Nat → Int32} (R : RS s T hi TI fl n tp) (hT : TO T) (hTI : hi = true → TO TI) : rB h m (f_X13_restore m (pm h m s)) (bn hi) (if hi = true then TI else T) hi TI fl n tp := by
  unfold f_X13_restore
  refine rs_in R hT (fun s1 R1 => ?_)
  rw [pm_gI27, R1.ih]
  cases hi with
  | false =>
    rw [if_neg (show ¬ ¬ bn false = 0 by decide), if_neg (by decide)]
    exact rb_ok R1 _
  | true =>
    rw [if_pos (show ¬ bn true = 0 by decide), if_pos rfl]
    obtain ⟨i1, i2, i3, i4, i5, i6⟩ := R1.im rfl
    have hO := hTI rfl
    have h8 := hO.2.2.2.1
    have h40 := hO.2.1
    rw [pm_gI28, i2, pm_pV18, st2_sw]
    generalize hs3 : sw s1 18 (upd (s1 18) 0 (nI TI.2.1)) = s3
    have t3 : ∀ k, k ≠ 18 → s3 k = s1 k := fun k hk => by rw [← hs3]; exact sw_ne _ _ _ _ hk
    have v3 : s3 18 0 = nI TI.2.1 := by rw [← hs3, sw_eq]; exact if_pos rfl
    have f29 : s3 29 0 = nI TI.2.2.2.1 := by rw [t3 29 (by decide)]; exact i4
    rw [pm_gI29, f29, pm_pV22, st2_sw]
    generalize hs4 : sw s3 22 (upd (s3 22) 0 (nI TI.2.2.2.1)) = s4
    have t4 : ∀ k, k ≠ 22 → s4 k = s3 k := fun k hk => by rw [← hs4]; exact sw_ne _ _ _ _ hk
    have v4 : s4 22 0 = nI TI.2.2.2.1 := by rw [← hs4, sw_eq]; exact if_pos rfl
    obtain ⟨r5, a5, b5⟩ := t_cp2_13 h m s4
    rw [pm_gR2, pm_gR30, a5, bd_some]
    generalize hs5 : sw s4 2 r5 = s5
    have t5 : ∀ k, k ≠ 2 → s5 k = s4 k := fun k hk => by rw [← hs5]; exact sw_ne _ _ _ _ hk
    have v5 : s5 2 = r5 := by rw [← hs5, sw_eq]
    obtain ⟨r6, a6, b6⟩ := t_cp7_14 h m s5
    rw [pm_gR19, pm_gR31, a6, bd_some]
    generalize hs6 : sw s5 19 r6 = s6
    have t6 : ∀ k, k ≠ 19 → s6 k = s5 k := fun k hk => by rw [← hs6]; exact sw_ne _ _ _ _ hk
    have v6 : s6 19 = r6 := by rw [← hs6, sw_eq]
    obtain ⟨r7, a7, b7⟩ := t_cp10_15 h m s6
    rw [pm_gR23, pm_gR32, a7, bd_some]
    generalize hs7 : sw s6 23 r7 = s7
    have t7 : ∀ k, k ≠ 23 → s7 k = s6 k := fun k hk => by rw [← hs7]; exact sw_ne _ _ _ _ hk
    have v7 : s7 23 = r7 := by rw [← hs7, sw_eq]
    obtain ⟨r8, a8, b8⟩ := t_cp11_16 h m s7
    rw [pm_gR24, pm_gR33, a8, bd_some]
    generalize hs8 : sw s7 24 r8 = s8
    have t8 : ∀ k, k ≠ 24 → s8 k = s7 k := fun k hk => by rw [← hs8]; exact sw_ne _ _ _ _ hk
    have v8 : s8 24 = r8 := by rw [← hs8, sw_eq]
    obtain ⟨r9, a9, b9⟩ := t_cp12_17 h m s8
    rw [pm_gR25, pm_gR34, a9, bd_some]
    generalize hs9 : sw s8 25 r9 = s9
    have t9 : ∀ k, k ≠ 25 → s9 k = s8 k := fun k hk => by rw [← hs9]; exact sw_ne _ _ _ _ hk
    have v9 : s9 25 = r9 := by rw [← hs9, sw_eq]
    obtain ⟨r10, a10, b10⟩ := t_cp3_18 h m s9
    rw [pm_gR3, pm_gR35, a10, bd_some]
    generalize hs10 : sw s9 3 r10 = s10
    have t10 : ∀ k, k ≠ 3 → s10 k = s9 k := fun k hk => by rw [← hs10]; exact sw_ne _ _ _ _ hk
    have v10 : s10 3 = r10 := by rw [← hs10, sw_eq]
    have e : ∀ k, k ≠ 3 → k ≠ 25 → k ≠ 24 → k ≠ 23 → k ≠ 19 → k ≠ 2 → k ≠ 22 → k ≠ 18 → s10 k = s1 k := fun k g1 g2 g3 g4 g5 g6 g7 g8 => by rw [t10 k g1, t9 k g2, t8 k g3, t7 k g4, t6 k g5, t5 k g6, t4 k g7, t3 k g8]
    refine ⟨s10, rfl, ?_, ?_, ?_, ?_, ?_, ?_, ?_, ?_, ?_, ?_, ?_⟩
    · rw [t10 2 (by decide), t9 2 (by decide), t8 2 (by decide), t7 2 (by decide), t6 2 (by decide), v5]
      refine RowV_cg i1 hO.1.1.bd (fun j hj => ?_)
      rw [b5 j hj, t4 30 (by decide), t3 30 (by decide)]
    · rw [t10 18 (by decide), t9 18 (by decide), t8 18 (by decide), t7 18 (by decide), t6 18 (by decide), t5 18 (by decide), t4 18 (by decide)]; exact v3
    · rw [t10 19 (by decide), t9 19 (by decide), t8 19 (by decide), t7 19 (by decide), v6]
      intro i hi1
      refine RowV_cg (i3 i hi1) (hO.2.2.1 i hi1).1.bd (fun j hj => ?_)
      rw [b6 _ (by omega), t5 31 (by decide), t4 31 (by decide), t3 31 (by decide)]
    · rw [t10 22 (by decide), t9 22 (by decide), t8 22 (by decide), t7 22 (by decide), t6 22 (by decide), t5 22 (by decide)]; exact v4
    · rw [t10 23 (by decide), t9 23 (by decide), t8 23 (by decide), v7, t10 24 (by decide), t9 24 (by decide), v8, t10 25 (by decide), v9]
      intro j hj
      rw [b7 j (by omega), b8 j (by omega), b9 j (by omega), t6 32 (by decide), t5 32 (by decide), t4 32 (by decide), t3 32 (by decide), t7 33 (by decide), t6 33 (by decide), t5 33 (by decide), t4 33 (by decide), t3 33 (by decide), t8 34 (by decide), t7 34 (by decide), t6 34 (by decide), t5 34 (by decide), t4 34 (by decide), t3 34 (by decide)]
      exact i5 j hj
    · rw [v10]
      intro j hj
      rw [b10 j hj, t9 35 (by decide), t8 35 (by decide), t7 35 (by decide), t6 35 (by decide), t5 35 (by decide), t4 35 (by decide), t3 35 (by decide)]
      exact i6 j hj
    · rw [e 27 (by decide) (by decide) (by decide) (by decide) (by decide) (by decide) (by decide) (by decide)]; exact R1.ih
    · intro h; exact RImg_k (R1.im h) (fun k hk => e k (by omega) (by omega) (by omega) (by omega) (by omega) (by omega) (by omega) (by omega))
    · rw [e 14 (by decide) (by decide) (by decide) (by decide) (by decide) (by decide) (by decide) (by decide)]; exact R1.fa
    · rw [e 5 (by decide) (by decide) (by decide) (by decide) (by decide) (by decide) (by decide) (by decide)]; exact R1.tn
    · rw [e 4 (by decide) (by decide) (by decide) (by decide) (by decide) (by decide) (by decide) (by decide)]; exact R1.tt
