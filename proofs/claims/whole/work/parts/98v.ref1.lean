/-! the reference's reader: its state -/
def rq (s : ms) (a y v b e o q : Int32) (c : Nat → Int32) (k : Int32) : ms := fun r j => if r = 15 then c j else if j = 0 then (if r = 6 then a else if r = 8 then y else if r = 9 then v else if r = 10 then b else if r = 11 then e else if r = 12 then o else if r = 13 then q else if r = 16 then k else s r j) else s r j
section RQ
variable {β γ : Type} {h : jh} {m : Nat} {s : ms} {a y v b e o q k : Int32} {c : Nat → Int32}
theorem rq_id (s : ms) : rq s (s 6 0) (s 8 0) (s 9 0) (s 10 0) (s 11 0) (s 12 0) (s 13 0) (s 15) (s 16 0) = s := by
  funext r j
  unfold rq
  by_cases h : r = 15
  · rw [if_pos h, h]
  · rw [if_neg h]
    by_cases hj : j = 0
    · rw [if_pos hj, hj]
      repeat' split
      all_goals first | rfl | (rename_i g; rw [g])
    · rw [if_neg hj]
theorem rq_ne (r : Nat) (h : r ≠ 6 ∧ r ≠ 8 ∧ r ≠ 9 ∧ r ≠ 10 ∧ r ≠ 11 ∧ r ≠ 12 ∧ r ≠ 13 ∧ r ≠ 15 ∧ r ≠ 16) : rq s a y v b e o q c k r = s r := by
  funext j
  obtain ⟨h1, h2, h3, h4, h5, h6, h7, h8, h9⟩ := h
  unfold rq
  rw [if_neg h8, if_neg h1, if_neg h2, if_neg h3, if_neg h4, if_neg h5, if_neg h6, if_neg h7, if_neg h9, ite_self]
theorem q_g6 (K : Int32 → Option β) : gI (pm h m (rq s a y v b e o q c k)) m 11 6 K = K a := by rw [pm_gI6]; rfl
theorem q_p6 (x : Int32) (K : jh → Option β) : pV (pm h m (rq s a y v b e o q c k)) m 11 6 (.int x) K = K (pm h m (rq s x y v b e o q c k)) := by
  rw [pm_pV6]
  have : st2 (rq s a y v b e o q c k) 6 0 x = rq s x y v b e o q c k := by
    funext r j
    by_cases hj : j = 0
    · subst hj
      by_cases hr : r = 6
      · subst hr; rfl
      · simp [st2, rq, hr]
    · simp [st2, rq, hj]
  rw [this]
theorem q_g8 (K : Int32 → Option β) : gI (pm h m (rq s a y v b e o q c k)) m 11 8 K = K y := by rw [pm_gI8]; rfl
theorem q_p8 (x : Int32) (K : jh → Option β) : pV (pm h m (rq s a y v b e o q c k)) m 11 8 (.int x) K = K (pm h m (rq s a x v b e o q c k)) := by
  rw [pm_pV8]
  have : st2 (rq s a y v b e o q c k) 8 0 x = rq s a x v b e o q c k := by
    funext r j
    by_cases hj : j = 0
    · subst hj
      by_cases hr : r = 8
      · subst hr; rfl
      · simp [st2, rq, hr]
    · simp [st2, rq, hj]
  rw [this]
theorem q_g9 (K : Int32 → Option β) : gI (pm h m (rq s a y v b e o q c k)) m 11 9 K = K v := by rw [pm_gI9]; rfl
theorem q_p9 (x : Int32) (K : jh → Option β) : pV (pm h m (rq s a y v b e o q c k)) m 11 9 (.int x) K = K (pm h m (rq s a y x b e o q c k)) := by
  rw [pm_pV9]
  have : st2 (rq s a y v b e o q c k) 9 0 x = rq s a y x b e o q c k := by
    funext r j
    by_cases hj : j = 0
    · subst hj
      by_cases hr : r = 9
      · subst hr; rfl
      · simp [st2, rq, hr]
    · simp [st2, rq, hj]
  rw [this]
theorem q_g10 (K : Int32 → Option β) : gI (pm h m (rq s a y v b e o q c k)) m 11 10 K = K b := by rw [pm_gI10]; rfl
theorem q_p10 (x : Int32) (K : jh → Option β) : pV (pm h m (rq s a y v b e o q c k)) m 11 10 (.int x) K = K (pm h m (rq s a y v x e o q c k)) := by
  rw [pm_pV10]
  have : st2 (rq s a y v b e o q c k) 10 0 x = rq s a y v x e o q c k := by
    funext r j
    by_cases hj : j = 0
    · subst hj
      by_cases hr : r = 10
      · subst hr; rfl
      · simp [st2, rq, hr]
    · simp [st2, rq, hj]
  rw [this]
theorem q_g11 (K : Int32 → Option β) : gI (pm h m (rq s a y v b e o q c k)) m 11 11 K = K e := by rw [pm_gI11]; rfl
theorem q_p11 (x : Int32) (K : jh → Option β) : pV (pm h m (rq s a y v b e o q c k)) m 11 11 (.int x) K = K (pm h m (rq s a y v b x o q c k)) := by
  rw [pm_pV11]
  have : st2 (rq s a y v b e o q c k) 11 0 x = rq s a y v b x o q c k := by
    funext r j
    by_cases hj : j = 0
    · subst hj
      by_cases hr : r = 11
      · subst hr; rfl
      · simp [st2, rq, hr]
    · simp [st2, rq, hj]
  rw [this]
theorem q_g12 (K : Int32 → Option β) : gI (pm h m (rq s a y v b e o q c k)) m 11 12 K = K o := by rw [pm_gI12]; rfl
theorem q_p12 (x : Int32) (K : jh → Option β) : pV (pm h m (rq s a y v b e o q c k)) m 11 12 (.int x) K = K (pm h m (rq s a y v b e x q c k)) := by
  rw [pm_pV12]
  have : st2 (rq s a y v b e o q c k) 12 0 x = rq s a y v b e x q c k := by
    funext r j
    by_cases hj : j = 0
    · subst hj
      by_cases hr : r = 12
      · subst hr; rfl
      · simp [st2, rq, hr]
    · simp [st2, rq, hj]
  rw [this]
theorem q_g13 (K : Int32 → Option β) : gI (pm h m (rq s a y v b e o q c k)) m 11 13 K = K q := by rw [pm_gI13]; rfl
theorem q_p13 (x : Int32) (K : jh → Option β) : pV (pm h m (rq s a y v b e o q c k)) m 11 13 (.int x) K = K (pm h m (rq s a y v b e o x c k)) := by
  rw [pm_pV13]
  have : st2 (rq s a y v b e o q c k) 13 0 x = rq s a y v b e o x c k := by
    funext r j
    by_cases hj : j = 0
    · subst hj
      by_cases hr : r = 13
      · subst hr; rfl
      · simp [st2, rq, hr]
    · simp [st2, rq, hj]
  rw [this]
theorem q_g16 (K : Int32 → Option β) : gI (pm h m (rq s a y v b e o q c k)) m 11 16 K = K k := by rw [pm_gI16]; rfl
theorem q_p16 (x : Int32) (K : jh → Option β) : pV (pm h m (rq s a y v b e o q c k)) m 11 16 (.int x) K = K (pm h m (rq s a y v b e o q c x)) := by
  rw [pm_pV16]
  have : st2 (rq s a y v b e o q c k) 16 0 x = rq s a y v b e o q c x := by
    funext r j
    by_cases hj : j = 0
    · subst hj
      by_cases hr : r = 16
      · subst hr; rfl
      · simp [st2, rq, hr]
    · simp [st2, rq, hj]
  rw [this]
theorem q_c (o' : Option (γ × jh)) (K : γ → jh → Option β) : cV (pm h m (rq s a y v b e o q c k)) m 11 o' K = bd o' K := pm_cV _ _ _ _ _
theorem q_g7 (K : Int32 → Option β) : gI (pm h m (rq s a y v b e o q c k)) m 11 7 K = K (s 7 0) := by rw [pm_gI7]; rfl
theorem q_t (j : Nat) (hj : j < 900) (K : Int32 → Option β) : aI (pm h m (rq s a y v b e o q c k)) (m + 4) (nI j) K = K (s 4 j) := by
  rw [pm_aI4, if_neg (al_in hj (by decide)), al_cl (by omega), rq_ne 4 (by decide)]
theorem q_a15 (j : Nat) (hj : j < 360) (K : Int32 → Option β) : aI (pm h m (rq s a y v b e o q c k)) (m + 5) (nI j) K = K (c j) := by
  rw [pm_aI15, if_neg (al_in hj (by decide)), al_cl (by omega)]; rfl
theorem q_s15 (j : Nat) (hj : j < 360) (x : Int32) (K : jh → Option β) : sI (pm h m (rq s a y v b e o q c k)) (m + 5) (nI j) x K = K (pm h m (rq s a y v b e o q (upd c j x) k)) := by
  rw [pm_sI15, if_neg (al_in hj (by decide)), al_cl (by omega)]
  have : st2 (rq s a y v b e o q c k) 15 j x = rq s a y v b e o q (upd c j x) k := by
    funext r i
    by_cases hr : r = 15
    · subst hr; simp [st2, rq, upd]
    · simp [st2, rq, hr]
  rw [this]
end RQ
section RST
variable {h : jh} {m : Nat} {s : ms} {a y v b e o q k : Int32} {c : Nat → Int32} {B : Nat → Nat} {N : Nat}
def bq (B : Nat → Nat) (N i : Nat) : Int32 := if i < N then nI (B i) else nm1
theorem q_at (hB : BB B N) (h7 : s 7 0 = nI N) (h4 : ∀ j, j < N → s 4 j = nI (B j)) (i : Nat) (hi : i ≤ N) : f_X13_byteAt m (nI i) (pm h m (rq s a y v b e o q c k)) = some (bq B N i, pm h m (rq s a y v b e o q c k)) := by
  have hN := hB.1
  unfold f_X13_byteAt bq
  rw [q_g7, h7]
  by_cases h1 : i < N
  · rw [if_neg (by rw [al_le (by omega) (by omega)]; omega), if_pos h1, pm_gR4, q_t i (by omega), h4 i h1]
  · rw [if_pos (by rw [al_le (by omega) (by omega)]; omega), if_neg h1]; rfl
theorem bq_e (hB : BB B N) (i x : Nat) (hx : x < 256) : (bq B N i = nI x) = (B i = x) := by
  unfold bq
  by_cases h1 : i < N
  · have := hB.2.1 i h1
    rw [if_pos h1, al_eq (by omega) (by omega)]
  · have := hB.2.2 i (by omega)
    rw [if_neg h1, this]
    refine propext ⟨fun g => ?_, fun g => by omega⟩
    exact absurd (congrArg (fun w => decide (w < 0)) g) (by rw [show decide (nm1 < 0) = true from rfl, show decide (nI x < 0) = false from decide_eq_false (by rw [al_neg (by omega)]; exact id)]; decide)
theorem bq_m (hB : BB B N) (i : Nat) : (bq B N i = nm1) = (srt (B i) = 0) := by
  unfold bq
  by_cases h1 : i < N
  · have := hB.2.1 i h1
    rw [if_pos h1]
    refine propext ⟨fun g => ?_, fun g => ?_⟩
    · exact absurd (congrArg (fun w => decide (w < 0)) g) (by rw [show decide (nm1 < 0) = true from rfl, show decide (nI (B i) < 0) = false from decide_eq_false (by rw [al_neg (by omega)]; exact id)]; decide)
    · unfold srt at g
      rw [if_neg (by omega)] at g
      repeat' split at g
      all_goals omega
  · have := hB.2.2 i (by omega)
    rw [if_neg h1, this]
    exact propext ⟨fun _ => rfl, fun _ => rfl⟩
theorem sr_1 (b : Nat) : (srt b = 1) = (97 ≤ b ∧ b ≤ 122) := by
  unfold srt
  refine propext ⟨fun g => ?_, fun g => ?_⟩
  · repeat' split at g
    all_goals omega
  · rw [if_neg (by omega), if_pos g]
theorem sr_2 (b : Nat) : (srt b = 2) = (48 ≤ b ∧ b ≤ 57) := by
  unfold srt
  refine propext ⟨fun g => ?_, fun g => ?_⟩
  · repeat' split at g
    all_goals omega
  · rw [if_neg (by omega), if_neg (by omega), if_pos g]
theorem q_rng (b lo hi : Nat) (hb : b < 256) (hl : lo < 256) (hh : hi < 256) (X : jh) : (if nI b < nI lo then some ((0 : Int32), X) else if nI hi < nI b then some (0, X) else some (1, X)) = some (bn (decide (lo ≤ b ∧ b ≤ hi)), X) := by
  by_cases c1 : b < lo
  · rw [if_pos (by rw [al_lt (by omega) (by omega)]; exact c1), decide_eq_false (by omega)]; rfl
  · rw [if_neg (by rw [al_lt (by omega) (by omega)]; exact c1)]
    by_cases c2 : hi < b
    · rw [if_pos (by rw [al_lt (by omega) (by omega)]; exact c2), decide_eq_false (by omega)]; rfl
    · rw [if_neg (by rw [al_lt (by omega) (by omega)]; exact c2), decide_eq_true (by omega)]; rfl
theorem q_let (hB : BB B N) (i : Nat) (H : jh) : f_X13_isLetter (bq B N i) H = some (bn (decide (srt (B i) = 1)), H) := by
  unfold f_X13_isLetter bq
  by_cases h1 : i < N
  · have hb := hB.2.1 i h1
    rw [if_pos h1, decide_eq_decide.mpr (iff_of_eq (sr_1 (B i)))]
    exact q_rng (B i) 97 122 hb (by decide) (by decide) H
  · rw [if_neg h1, hB.2.2 i (by omega)]; rfl
theorem q_dig (hB : BB B N) (i : Nat) (H : jh) : f_X13_isDigit (bq B N i) H = some (bn (decide (srt (B i) = 2)), H) := by
  unfold f_X13_isDigit bq
  by_cases h1 : i < N
  · have hb := hB.2.1 i h1
    rw [if_pos h1, decide_eq_decide.mpr (iff_of_eq (sr_2 (B i)))]
    exact q_rng (B i) 48 57 hb (by decide) (by decide) H
  · rw [if_neg h1, hB.2.2 i (by omega)]; rfl
theorem q_skip_l (hB : BB B N) (h7 : s 7 0 = nI N) (h4 : ∀ j, j < N → s 4 j = nI (B j)) (K : Nat → jh → Option (Unit × jh)) (L : Nat → Nat → jh → Option (Unit × jh)) (hL : ∀ f, L (f + 1) = f_X13_stepOn_h0 K (L f)) : ∀ r i f, i + r = N → r + 1 ≤ f → L f m (pm h m (rq s (nI i) y v b e o q c k)) = K m (pm h m (rq s (nI (skp B r i)) y v b e o q c k)) := by
  have hN := hB.1
  intro r
  induction r with
  | zero =>
    intro i f hi hf
    obtain ⟨f, rfl⟩ : ∃ g, f = g + 1 := ⟨f - 1, by omega⟩
    have e3 := hB.2.2 i (by omega)
    rw [hL]
    unfold f_X13_stepOn_h0
    rw [q_g6, q_c, q_at hB h7 h4 i (by omega), bd_some, if_neg (by rw [show (32 : Int32) = nI 32 from rfl, bq_e hB i 32 (by decide)]; omega), q_g6, q_c, q_at hB h7 h4 i (by omega), bd_some, if_pos (by rw [show (10 : Int32) = nI 10 from rfl, bq_e hB i 10 (by decide)]; omega), skp]
  | succ r ih =>
    intro i f hi hf
    obtain ⟨f, rfl⟩ : ∃ g, f = g + 1 := ⟨f - 1, by omega⟩
    rw [hL]
    have e26 : f_X13_stepOn_b26 (L f) K m (pm h m (rq s (nI i) y v b e o q c k)) = K m (pm h m (rq s (nI (skp B r (i + 1))) y v b e o q c k)) := by
      unfold f_X13_stepOn_b26
      rw [q_g6, q_p6, show nI i + (1 : Int32) = nI (i + 1) from al_add i 1]
      exact ih (i + 1) f (by omega) (by omega)
    unfold f_X13_stepOn_h0
    rw [q_g6, q_c, q_at hB h7 h4 i (by omega), bd_some, q_g6, q_c, q_at hB h7 h4 i (by omega), bd_some, e26, skp]
    by_cases c1 : B i = 32
    · rw [if_pos (by rw [show (32 : Int32) = nI 32 from rfl, bq_e hB i 32 (by decide)]; exact c1), if_pos (Or.inl c1)]
    · rw [if_neg (by rw [show (32 : Int32) = nI 32 from rfl, bq_e hB i 32 (by decide)]; exact c1)]
      by_cases c2 : B i = 10
      · rw [if_neg (not_not_intro (by rw [show (10 : Int32) = nI 10 from rfl, bq_e hB i 10 (by decide)]; exact c2)), if_pos (Or.inr c2)]
      · rw [if_pos (by rw [show (10 : Int32) = nI 10 from rfl, bq_e hB i 10 (by decide)]; exact c2), if_neg (by omega)]
theorem q_let_l (hB : BB B N) (h7 : s 7 0 = nI N) (h4 : ∀ j, j < N → s 4 j = nI (B j)) (K : Nat → jh → Option (Unit × jh)) (L : Nat → Nat → jh → Option (Unit × jh)) (hL : ∀ f, L (f + 1) = f_X13_stepOn_h76 K (L f)) : ∀ r i f, i + r = N → r + 1 ≤ f → L f m (pm h m (rq s (nI i) y v b e o q c k)) = K m (pm h m (rq s (nI (rnn B 1 r i)) y v b e o q c k)) := by
  have hN := hB.1
  intro r
  induction r with
  | zero =>
    intro i f hi hf
    obtain ⟨f, rfl⟩ : ∃ g, f = g + 1 := ⟨f - 1, by omega⟩
    rw [hL]
    unfold f_X13_stepOn_h76
    rw [q_g6, q_c, q_at hB h7 h4 i (by omega), bd_some, q_let hB, bd_some, hB.2.2 i (by omega), if_pos (show bn (decide (srt 300 = 1)) = 0 by decide), rnn]
  | succ r ih =>
    intro i f hi hf
    obtain ⟨f, rfl⟩ : ∃ g, f = g + 1 := ⟨f - 1, by omega⟩
    rw [hL]
    unfold f_X13_stepOn_h76
    rw [q_g6, q_c, q_at hB h7 h4 i (by omega), bd_some, q_let hB, bd_some, q_g6, q_p6, show nI i + (1 : Int32) = nI (i + 1) from al_add i 1, ih (i + 1) f (by omega) (by omega), rnn]
    by_cases c1 : srt (B i) = 1
    · rw [decide_eq_true c1, if_neg (show ¬ bn true = 0 by decide), if_pos c1]
    · rw [decide_eq_false c1, if_pos (show bn false = 0 by decide), if_neg c1]
def dgc (B : Nat → Nat) : Nat → Nat → Nat → Nat
  | 0, _, v => v
  | r + 1, i, v => if srt (B i) = 2 then dgc B r (i + 1) (if 10 * v + (B i - 48) < 100000 then 10 * v + (B i - 48) else 100000) else v
theorem srt_d {b : Nat} (h : srt b = 2) : 48 ≤ b ∧ b ≤ 57 := by
  unfold srt at h
  repeat' split at h
  all_goals omega
theorem q_dig_l (hB : BB B N) (h7 : s 7 0 = nI N) (h4 : ∀ j, j < N → s 4 j = nI (B j)) (K : Nat → jh → Option (Unit × jh)) (L : Nat → Nat → jh → Option (Unit × jh)) (hL : ∀ f, L (f + 1) = f_X13_stepOn_h123 K (L f)) : ∀ r i f w, w ≤ 100000 → i + r = N → r + 1 ≤ f → L f m (pm h m (rq s (nI i) y (nI w) b e o q c k)) = K m (pm h m (rq s (nI (rnn B 2 r i)) y (nI (dgc B r i w)) b e o q c k)) := by
  have hN := hB.1
  intro r
  induction r with
  | zero =>
    intro i f w hw hi hf
    obtain ⟨f, rfl⟩ : ∃ g, f = g + 1 := ⟨f - 1, by omega⟩
    rw [hL]
    unfold f_X13_stepOn_h123
    rw [q_g6, q_c, q_at hB h7 h4 i (by omega), bd_some, q_dig hB, bd_some, hB.2.2 i (by omega), if_pos (show bn (decide (srt 300 = 2)) = 0 by decide), rnn, dgc]
  | succ r ih =>
    intro i f w hw hi hf
    obtain ⟨f, rfl⟩ : ∃ g, f = g + 1 := ⟨f - 1, by omega⟩
    rw [hL]
    unfold f_X13_stepOn_h123
    rw [q_g6, q_c, q_at hB h7 h4 i (by omega), bd_some, q_dig hB, bd_some, rnn, dgc]
    by_cases c1 : srt (B i) = 2
    · have hd := srt_d c1
      have ev : ((10 : Int32) * nI w) + nI (B i) - 48 = nI (10 * w + (B i - 48)) := by
        rw [show (10 : Int32) = nI 10 from rfl, al_mul, al_add, show (48 : Int32) = nI 48 from rfl, al_sub (by omega)]
        congr 1
        omega
      have eb : bq B N i = nI (B i) := if_pos (by omega)
      have ec : (if nI (10 * w + (B i - 48)) < (100000 : Int32) then nI (10 * w + (B i - 48)) else (100000 : Int32)) = nI (if 10 * w + (B i - 48) < 100000 then 10 * w + (B i - 48) else 100000) := by
        have e9 : (nI (10 * w + (B i - 48)) < (100000 : Int32)) = (10 * w + (B i - 48) < 100000) := al_lt (b := 100000) (by omega) (by omega)
        by_cases g : 10 * w + (B i - 48) < 100000
        · rw [if_pos (by rw [e9]; exact g), if_pos g]
        · rw [if_neg (by rw [e9]; exact g), if_neg g]; rfl
      rw [decide_eq_true c1, if_neg (show ¬ bn true = 0 by decide), if_pos c1, if_pos c1, q_g9, q_g6, q_c, q_at hB h7 h4 i (by omega), bd_some, eb, ev]
      unfold lt1
      rw [ec]
      dsimp only
      rw [q_p9, q_g6, q_p6, show nI i + (1 : Int32) = nI (i + 1) from al_add i 1]
      exact ih (i + 1) f _ (by split <;> omega) (by omega) (by omega)
    · rw [decide_eq_false c1, if_pos (show bn false = 0 by decide), if_neg c1, if_neg c1]
theorem dgc_0 (B : Nat → Nat) (r i w : Nat) (h : rnn B 2 r i = i) : dgc B r i w = w := by
  cases r with
  | zero => rfl
  | succ r =>
    rw [rnn] at h
    rw [dgc]
    by_cases c1 : srt (B i) = 2
    · rw [if_pos c1] at h
      have := (rnn_le B 2 r (i + 1)).1
      omega
    · rw [if_neg c1]
theorem dgc_s (B : Nat → Nat) (r i w : Nat) (h : rnn B 2 r i ≠ i) : ∃ r', srt (B i) = 2 ∧ rnn B 2 r i = rnn B 2 r' (i + 1) ∧ dgc B r i w = dgc B r' (i + 1) (if 10 * w + (B i - 48) < 100000 then 10 * w + (B i - 48) else 100000) := by
  cases r with
  | zero => exact absurd rfl h
  | succ r =>
    rw [rnn] at h ⊢
    rw [dgc]
    by_cases c1 : srt (B i) = 2
    · rw [if_pos c1, if_pos c1]; exact ⟨r, c1, rfl, rfl⟩
    · rw [if_neg c1] at h; exact absurd rfl h
theorem dgc_v (B : Nat → Nat) (N p : Nat) (hy : tY B N p = 2) (hl : tE B N p - tS B N p ≤ 2) (hn : tS B N p < tE B N p) : dgc B (N - tS B N p) (tS B N p) 0 = rdV B N p := by
  have e : tE B N p = rnn B 2 (N - tS B N p) (tS B N p) := by unfold tE; rw [if_neg (by omega), hy]
  unfold rdV
  rw [e] at hl hn ⊢
  obtain ⟨r1, a1, a2, a3⟩ := dgc_s B (N - tS B N p) (tS B N p) 0 (by omega)
  have d1 := srt_d a1
  rw [a3, a2, if_pos (by omega)]
  rw [a2] at hl hn
  by_cases c1 : rnn B 2 r1 (tS B N p + 1) = tS B N p + 1
  · rw [dgc_0 _ _ _ _ c1, c1, if_pos (by omega)]; omega
  · obtain ⟨r2, b1, b2, b3⟩ := dgc_s B r1 (tS B N p + 1) (10 * 0 + (B (tS B N p) - 48)) c1
    have d2 := srt_d b1
    have g := (rnn_le B 2 r2 (tS B N p + 1 + 1)).1
    rw [b2] at hl c1
    rw [b3, b2, dgc_0 _ _ _ _ (show rnn B 2 r2 (tS B N p + 1 + 1) = tS B N p + 1 + 1 by omega), if_pos (by omega), if_neg (by omega)]
    omega
end RST
