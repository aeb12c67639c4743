/-! texts: what a tape says, as numbers -/
def srt (b : Nat) : Nat := if b = 300 then 0 else if 97 ≤ b ∧ b ≤ 122 then 1 else if 48 ≤ b ∧ b ≤ 57 then 2 else if b = 59 then 3 else 4
def skp (B : Nat → Nat) : Nat → Nat → Nat
  | 0, i => i
  | k + 1, i => if B i = 32 ∨ B i = 10 then skp B k (i + 1) else i
def rnn (B : Nat → Nat) (y : Nat) : Nat → Nat → Nat
  | 0, i => i
  | k + 1, i => if srt (B i) = y then rnn B y k (i + 1) else i
def tS (B : Nat → Nat) (N p : Nat) : Nat := skp B (N - p) p
def tY (B : Nat → Nat) (N p : Nat) : Nat := srt (B (tS B N p))
def tE (B : Nat → Nat) (N p : Nat) : Nat := if tY B N p = 3 ∨ tY B N p = 4 then tS B N p + 1 else rnn B (tY B N p) (N - tS B N p) (tS B N p)
/-- the bytes of a text of N -/
def BB (B : Nat → Nat) (N : Nat) : Prop := N ≤ 900 ∧ (∀ j, j < N → B j < 256) ∧ ∀ j, N ≤ j → B j = 300
theorem skp_le (B : Nat → Nat) : ∀ k i, i ≤ skp B k i ∧ skp B k i ≤ i + k := by
  intro k
  induction k with
  | zero => intro i; exact ⟨Nat.le_refl _, Nat.le_refl _⟩
  | succ k ih =>
    intro i
    rw [skp]
    have := ih (i + 1)
    split <;> omega
theorem rnn_le (B : Nat → Nat) (y : Nat) : ∀ k i, i ≤ rnn B y k i ∧ rnn B y k i ≤ i + k := by
  intro k
  induction k with
  | zero => intro i; exact ⟨Nat.le_refl _, Nat.le_refl _⟩
  | succ k ih =>
    intro i
    rw [rnn]
    have := ih (i + 1)
    split <;> omega
theorem srt_le (b : Nat) : srt b ≤ 4 := by
  unfold srt
  repeat' split
  all_goals omega
theorem tk_b {B : Nat → Nat} {N : Nat} (h : BB B N) (p : Nat) (hp : p ≤ N) : p ≤ tS B N p ∧ tS B N p ≤ tE B N p ∧ tE B N p ≤ N ∧ tY B N p ≤ 4 := by
  have h1 := skp_le B (N - p) p
  have h2 : p ≤ tS B N p := h1.1
  have h3 : tS B N p ≤ N := by unfold tS; omega
  have hy := srt_le (B (tS B N p))
  refine ⟨h2, ?_, ?_, hy⟩
  · unfold tE
    have := rnn_le B (tY B N p) (N - tS B N p) (tS B N p)
    split <;> omega
  · unfold tE
    have := rnn_le B (tY B N p) (N - tS B N p) (tS B N p)
    by_cases e : tY B N p = 3 ∨ tY B N p = 4
    · rw [if_pos e]
      by_cases e2 : tS B N p = N
      · have : B (tS B N p) = 300 := h.2.2 _ (by omega)
        have : tY B N p = 0 := by unfold tY; rw [this]; rfl
        omega
      · omega
    · rw [if_neg e]; omega
def isWd (B : Nat → Nat) (st en : Nat) (l : List Nat) : Bool := decide (en - st = l.length) && alls (fun i => decide (B (st + i) = l.getD i 0)) l.length 0
def whW (B : Nat → Nat) (N p : Nat) : Nat := if tY B N p = 1 then ff (fun k => isWd B (tS B N p) (tE B N p) (jv_tx.getD k [])) 11 0 else 11
theorem whW_le (B : Nat → Nat) (N p : Nat) : whW B N p ≤ 11 := by
  unfold whW
  split
  · have := (ff_le (fun k => isWd B (tS B N p) (tE B N p) (jv_tx.getD k [])) 11 0).2
    omega
  · exact Nat.le_refl _
def rdV (B : Nat → Nat) (N p : Nat) : Nat := if tE B N p - tS B N p = 1 then B (tS B N p) - 48 else 10 * (B (tS B N p) - 48) + (B (tS B N p + 1) - 48)
def gtt (c : Nat) : Nat := if c = 112 then 15 else if c = 115 then 7 else 99
def nfl (B : Nat → Nat) (N t p : Nat) : Nat := if tY B N p = 2 then (if tE B N p - tS B N p ≤ 2 then (if rdV B N p ≤ t then 0 else 2) else 2) else 1
def kfl (B : Nat → Nat) (N p : Nat) : Nat := if 1 ≤ whW B N p ∧ whW B N p ≤ 3 then 0 else 1
def kvl (w : Nat) : Int32 := if w = 1 then nI 1 else if w = 2 then nI 0 else nI 2
def opF (B : Nat → Nat) (N c p : Nat) : Nat := if c = 107 then kfl B N p else nfl B N (gtt c) p
def opV (B : Nat → Nat) (N c p : Nat) : Int32 := if c = 107 then kvl (whW B N p) else nI (rdV B N p)
def rdl (B : Nat → Nat) (N : Nat) : List Nat → Nat → (Nat × Nat) × List Int32
  | [], p => ((0, p), [])
  | c :: cs, p => if opF B N c p = 0 then ((rdl B N cs (tE B N p)).1, opV B N c p :: (rdl B N cs (tE B N p)).2) else ((opF B N c p, tS B N p), [])
def rdF (B : Nat → Nat) (N : Nat) (cs : List Nat) (p : Nat) : Nat × Nat := if (rdl B N cs p).1.1 = 0 then (if tY B N (rdl B N cs p).1.2 = 3 then (0, tE B N (rdl B N cs p).1.2) else (1, tS B N (rdl B N cs p).1.2)) else (rdl B N cs p).1
def prl (B : Nat → Nat) (N : Nat) : Nat → Nat → Nat → Nat × Nat × List (Nat × List Int32)
  | 0, _, p => (0, p, [])
  | f + 1, c, p => if tY B N p = 0 then (0, p, []) else if whW B N p = 11 then (1, tS B N p, []) else if c = 60 then (2, tS B N p, [])
    else if (rdF B N (csh (whW B N p)) (tE B N p)).1 = 0 then ((prl B N f (c + 1) (rdF B N (csh (whW B N p)) (tE B N p)).2).1, (prl B N f (c + 1) (rdF B N (csh (whW B N p)) (tE B N p)).2).2.1, (whW B N p, (rdl B N (csh (whW B N p)) (tE B N p)).2) :: (prl B N f (c + 1) (rdF B N (csh (whW B N p)) (tE B N p)).2).2.2) else ((rdF B N (csh (whW B N p)) (tE B N p)).1, (rdF B N (csh (whW B N p)) (tE B N p)).2, [])
def dOl (v : vw) (w : Nat) (l : List Int32) : Int32 × vw := dDo v w (l.getD 0 0) (l.getD 1 0) (l.getD 2 0) (l.getD 3 0) (l.getD 4 0)
def runL : List (Nat × List Int32) → vw → vw
  | [], v => v
  | e :: l, v => runL l (dOl v e.1 e.2).2
theorem runL_ok : ∀ l v, OK v → OK (runL l v) := by
  intro l
  induction l with
  | nil => intro v h; exact h
  | cons e l ih => intro v h; exact ih _ (OK_do h _ _ _ _ _ _)
theorem nfl_le (B : Nat → Nat) (N t p : Nat) : nfl B N t p ≤ 2 := by
  unfold nfl
  repeat' split
  all_goals omega
theorem opF_le (B : Nat → Nat) (N c p : Nat) : opF B N c p ≤ 2 := by
  unfold opF kfl
  split
  · split <;> omega
  · exact nfl_le _ _ _ _
theorem rdl_b {B : Nat → Nat} {N : Nat} (h : BB B N) : ∀ cs p, p ≤ N → (rdl B N cs p).1.1 ≤ 2 ∧ (rdl B N cs p).1.2 ≤ N := by
  intro cs
  induction cs with
  | nil => intro p hp; exact ⟨Nat.zero_le _, hp⟩
  | cons c cs ih =>
    intro p hp
    have ht := tk_b h p hp
    have hf := opF_le B N c p
    rw [rdl]
    by_cases e : opF B N c p = 0
    · rw [if_pos e]; exact ih _ ht.2.2.1
    · rw [if_neg e]; exact ⟨hf, by show tS B N p ≤ N; omega⟩
theorem rdF_b {B : Nat → Nat} {N : Nat} (h : BB B N) (cs : List Nat) (p : Nat) (hp : p ≤ N) : (rdF B N cs p).1 ≤ 2 ∧ (rdF B N cs p).2 ≤ N := by
  have h1 := rdl_b h cs p hp
  have ht := tk_b h _ h1.2
  unfold rdF
  split
  · split
    · exact ⟨Nat.zero_le _, ht.2.2.1⟩
    · exact ⟨by show 1 ≤ 2; omega, by show tS B N _ ≤ N; omega⟩
  · exact h1
theorem prl_b {B : Nat → Nat} {N : Nat} (h : BB B N) : ∀ f c p, p ≤ N → (prl B N f c p).1 ≤ 2 ∧ (prl B N f c p).2.1 ≤ N := by
  intro f
  induction f with
  | zero => intro c p hp; exact ⟨Nat.zero_le _, hp⟩
  | succ f ih =>
    intro c p hp
    have ht := tk_b h p hp
    have hF := rdF_b h (csh (whW B N p)) (tE B N p) ht.2.2.1
    rw [prl]
    repeat' split
    · exact ⟨Nat.zero_le _, hp⟩
    · exact ⟨by show 1 ≤ 2; omega, by show tS B N p ≤ N; omega⟩
    · exact ⟨by show 2 ≤ 2; omega, by show tS B N p ≤ N; omega⟩
    · exact ih _ _ hF.2
    · exact hF
/-! the reader's cells -/
def pre (H : jh) (z : Nat) (tape ops : Nat → Int32) (n ln tk ts te : Int32) : jh := (H.1, H.2.1, fun q => if q = z + 96 then jO 4 [.ref (z + 97), .ref (z + 98), .int n, .int ln, .int tk, .int ts, .int te] else if q = z + 97 then jI 900 tape else if q = z + 98 then jI 5 ops else H.2.2 q)
section PRE
variable {β γ : Type} {H : jh} {z : Nat} {tape ops tape' ops' : Nat → Int32} {n ln tk ts te n' ln' tk' ts' te' : Int32}
theorem pre_96 : (pre H z tape ops n ln tk ts te).2.2 (z + 96) = jO 4 [.ref (z + 97), .ref (z + 98), .int n, .int ln, .int tk, .int ts, .int te] := if_pos rfl
theorem pre_97 : (pre H z tape ops n ln tk ts te).2.2 (z + 97) = jI 900 tape := by show (if z + 97 = z + 96 then _ else if z + 97 = z + 97 then _ else _) = _; rw [if_neg (by omega), if_pos rfl]
theorem pre_98 : (pre H z tape ops n ln tk ts te).2.2 (z + 98) = jI 5 ops := by show (if z + 98 = z + 96 then _ else if z + 98 = z + 97 then _ else if z + 98 = z + 98 then _ else _) = _; rw [if_neg (by omega), if_neg (by omega), if_pos rfl]
theorem pre_o (q : Nat) (h : ¬ (z + 96 ≤ q ∧ q < z + 99)) : (pre H z tape ops n ln tk ts te).2.2 q = H.2.2 q := by show (if q = z + 96 then _ else if q = z + 97 then _ else if q = z + 98 then _ else _) = _; rw [if_neg (by omega), if_neg (by omega), if_neg (by omega)]
theorem pre_id (h1 : H.2.2 (z + 96) = jO 4 [.ref (z + 97), .ref (z + 98), .int n, .int ln, .int tk, .int ts, .int te]) (h2 : H.2.2 (z + 97) = jI 900 tape) (h3 : H.2.2 (z + 98) = jI 5 ops) : pre H z tape ops n ln tk ts te = H := by
  refine Prod.ext rfl (Prod.ext rfl (funext fun q => ?_))
  show (if q = z + 96 then _ else if q = z + 97 then _ else if q = z + 98 then _ else _) = _
  by_cases e1 : q = z + 96
  · rw [if_pos e1, e1, h1]
  · rw [if_neg e1]
    by_cases e2 : q = z + 97
    · rw [if_pos e2, e2, h2]
    · rw [if_neg e2]
      by_cases e3 : q = z + 98
      · rw [if_pos e3, e3, h3]
      · rw [if_neg e3]
theorem pre_w (a : Nat) (c : jc) (ha : (pre H z tape' ops' n' ln' tk' ts' te').2.2 a = c) (ho : ∀ q, q ≠ a → (pre H z tape' ops' n' ln' tk' ts' te').2.2 q = (pre H z tape ops n ln tk ts te).2.2 q) : jv_wr (pre H z tape ops n ln tk ts te) a c = pre H z tape' ops' n' ln' tk' ts' te' := by
  refine Prod.ext rfl (Prod.ext rfl (funext fun q => ?_))
  show (if q = a then c else _) = _
  by_cases e : q = a
  · rw [if_pos e, e, ha]
  · rw [if_neg e, ho q e]
theorem pre_w96 : jv_wr (pre H z tape ops n ln tk ts te) (z + 96) (jO 4 [.ref (z + 97), .ref (z + 98), .int n', .int ln', .int tk', .int ts', .int te']) = pre H z tape ops n' ln' tk' ts' te' := by
  refine pre_w _ _ pre_96 (fun q hq => ?_)
  show (if q = z + 96 then _ else _) = (if q = z + 96 then _ else _)
  rw [if_neg hq, if_neg hq]
theorem pre_w97 : jv_wr (pre H z tape ops n ln tk ts te) (z + 97) (jI 900 tape') = pre H z tape' ops n ln tk ts te := by
  refine pre_w _ _ pre_97 (fun q hq => ?_)
  show (if q = z + 96 then _ else if q = z + 97 then _ else _) = (if q = z + 96 then _ else if q = z + 97 then _ else _)
  rw [if_neg hq, if_neg hq]
theorem pre_w98 : jv_wr (pre H z tape ops n ln tk ts te) (z + 98) (jI 5 ops') = pre H z tape ops' n ln tk ts te := by
  refine pre_w _ _ pre_98 (fun q hq => ?_)
  show (if q = z + 96 then _ else if q = z + 97 then _ else if q = z + 98 then _ else _) = (if q = z + 96 then _ else if q = z + 97 then _ else if q = z + 98 then _ else _)
  rw [if_neg hq, if_neg hq]
theorem pe_c (o : Option (γ × jh)) (K : γ → jh → Option β) : cV (pre H z tape ops n ln tk ts te) (z + 96) 4 o K = bd o K := cV_of pre_96 o K
theorem pe_0 (K : Nat → Option β) : gR (pre H z tape ops n ln tk ts te) (z + 96) 4 0 K = K (z + 97) := gR_of pre_96 rfl K
theorem pe_1 (K : Nat → Option β) : gR (pre H z tape ops n ln tk ts te) (z + 96) 4 1 K = K (z + 98) := gR_of pre_96 rfl K
theorem pe_2 (K : Int32 → Option β) : gI (pre H z tape ops n ln tk ts te) (z + 96) 4 2 K = K n := gI_of pre_96 rfl K
theorem pe_3 (K : Int32 → Option β) : gI (pre H z tape ops n ln tk ts te) (z + 96) 4 3 K = K ln := gI_of pre_96 rfl K
theorem pe_4 (K : Int32 → Option β) : gI (pre H z tape ops n ln tk ts te) (z + 96) 4 4 K = K tk := gI_of pre_96 rfl K
theorem pe_5 (K : Int32 → Option β) : gI (pre H z tape ops n ln tk ts te) (z + 96) 4 5 K = K ts := gI_of pre_96 rfl K
theorem pe_6 (K : Int32 → Option β) : gI (pre H z tape ops n ln tk ts te) (z + 96) 4 6 K = K te := gI_of pre_96 rfl K
theorem pp_2 (x : Int32) (K : jh → Option β) : pV (pre H z tape ops n ln tk ts te) (z + 96) 4 2 (.int x) K = K (pre H z tape ops x ln tk ts te) := by
  rw [pV_of pre_96 (Nat.le_of_ble_eq_true rfl)]; exact congrArg K pre_w96
theorem pp_3 (x : Int32) (K : jh → Option β) : pV (pre H z tape ops n ln tk ts te) (z + 96) 4 3 (.int x) K = K (pre H z tape ops n x tk ts te) := by
  rw [pV_of pre_96 (Nat.le_of_ble_eq_true rfl)]; exact congrArg K pre_w96
theorem pp_4 (x : Int32) (K : jh → Option β) : pV (pre H z tape ops n ln tk ts te) (z + 96) 4 4 (.int x) K = K (pre H z tape ops n ln x ts te) := by
  rw [pV_of pre_96 (Nat.le_of_ble_eq_true rfl)]; exact congrArg K pre_w96
theorem pp_5 (x : Int32) (K : jh → Option β) : pV (pre H z tape ops n ln tk ts te) (z + 96) 4 5 (.int x) K = K (pre H z tape ops n ln tk x te) := by
  rw [pV_of pre_96 (Nat.le_of_ble_eq_true rfl)]; exact congrArg K pre_w96
theorem pp_6 (x : Int32) (K : jh → Option β) : pV (pre H z tape ops n ln tk ts te) (z + 96) 4 6 (.int x) K = K (pre H z tape ops n ln tk ts x) := by
  rw [pV_of pre_96 (Nat.le_of_ble_eq_true rfl)]; exact congrArg K pre_w96
theorem pa_t (j : Nat) (hj : j < 900) (K : Int32 → Option β) : aI (pre H z tape ops n ln tk ts te) (z + 97) (nI j) K = K (tape j) := aI_of pre_97 hj (by decide) K
theorem pa_o (j : Nat) (hj : j < 5) (K : Int32 → Option β) : aI (pre H z tape ops n ln tk ts te) (z + 98) (nI j) K = K (ops j) := aI_of pre_98 hj (by decide) K
theorem pw_t (j : Nat) (hj : j < 900) (x : Int32) (K : jh → Option β) : sI (pre H z tape ops n ln tk ts te) (z + 97) (nI j) x K = K (pre H z (upd tape j x) ops n ln tk ts te) := by rw [sI_of pre_97 hj (by decide), pre_w97]
theorem pw_o (j : Nat) (hj : j < 5) (x : Int32) (K : jh → Option β) : sI (pre H z tape ops n ln tk ts te) (z + 98) (nI j) x K = K (pre H z tape (upd ops j x) n ln tk ts te) := by rw [sI_of pre_98 hj (by decide), pre_w98]
end PRE
/-! the class's tape -/
theorem byt_u (w : Int32) (k : Nat) (hk : k < 4) : ((w.toUInt32 >>> ((nI (24 - 8 * k)).toUInt32 &&& Int32.toUInt32 31)).toInt32) &&& 255 = byt w k := by
  have h8 : ∀ j : Fin 32, hb (nI 255) j.1 = decide (j.1 < 8) := by decide
  unfold byt
  apply hb_ext
  intro j hj
  rw [show (255 : Int32) = nI 255 from rfl, show (31 : Int32) = nI 31 from rfl, hb_and, hb_and, h8 ⟨j, hj⟩]
  by_cases h : j < 8
  · rw [hb_shr' w (24 - 8 * k) j (by omega), hb_sar' w (24 - 8 * k) j (by omega) (by omega)]
  · simp [h]
theorem k_app_l {H : jh} {z : Nat} {ops : Nat → Int32} {ln tk ts te : Int32} (w : Int32) (L : Nat → Nat → Int32 → Int32 → jh → Option (Unit × jh)) (hL : ∀ f, L (f + 1) = f_X6_append_h3 (fun h9 => some ((), h9)) (L f)) (m : Nat) (hm : m + 4 ≤ 900) : ∀ k i f (tape : Nat → Int32), i + k = 4 → k + 1 ≤ f → ∃ tape', L f (z + 96) w (nI 24 - nI (8 * i)) (pre H z tape ops (nI (m + i)) ln tk ts te) = some ((), pre H z tape' ops (nI (m + 4)) ln tk ts te) ∧ (∀ j, j < m + i → tape' j = tape j) ∧ ∀ j, i ≤ j → j < 4 → tape' (m + j) = byt w j := by
  intro k
  induction k with
  | zero =>
    intro i f tape hi hf
    obtain ⟨f, rfl⟩ : ∃ g, f = g + 1 := ⟨f - 1, by omega⟩
    have e4 : i = 4 := by omega
    subst e4
    refine ⟨tape, ?_, fun _ _ => rfl, fun j h1 h2 => by omega⟩
    rw [hL]
    unfold f_X6_append_h3
    rw [if_pos (show nI 24 - nI (8 * 4) < 0 by decide)]
  | succ k ih =>
    intro i f tape hi hf
    obtain ⟨f, rfl⟩ : ∃ g, f = g + 1 := ⟨f - 1, by omega⟩
    obtain ⟨tape', e1, e2, e3⟩ := ih (i + 1) f (upd tape (m + i) (byt w i)) (by omega) (by omega)
    refine ⟨tape', ?_, ?_, ?_⟩
    · rw [hL]
      unfold f_X6_append_h3
      have es : nI 24 - nI (8 * i) = nI (24 - 8 * i) := al_sub (by omega)
      have et : nI (24 - 8 * i) + (-8) = nI 24 - nI (8 * (i + 1)) := by
        have : i = 0 ∨ i = 1 ∨ i = 2 ∨ i = 3 := by omega
        rcases this with rfl | rfl | rfl | rfl <;> decide
      rw [es, if_neg (by rw [al_neg (by omega)]; exact id), pe_2, if_neg (by rw [show (900 : Int32) = nI 900 from rfl, al_le (by omega) (by omega)]; omega), pe_0, pe_2, pw_t (m + i) (by omega), byt_u w i (by omega), pe_2, pp_2, show nI (m + i) + (1 : Int32) = nI (m + (i + 1)) by rw [show (1 : Int32) = nI 1 from rfl, al_add, Nat.add_assoc], et]
      exact e1
    · intro j hj
      rw [e2 j (by omega)]; exact if_neg (by omega)
    · intro j h1 h2
      by_cases ej : j = i
      · rw [ej, e2 _ (by omega)]; exact if_pos rfl
      · exact e3 j (by omega) h2
theorem k_app {H : jh} {z : Nat} {tape ops : Nat → Int32} {ln tk ts te : Int32} (w : Int32) (m : Nat) (hm : m + 4 ≤ 900) : ∃ tape', f_X6_append (z + 96) w (pre H z tape ops (nI m) ln tk ts te) = some ((), pre H z tape' ops (nI (m + 4)) ln tk ts te) ∧ (∀ j, j < m → tape' j = tape j) ∧ ∀ j, j < 4 → tape' (m + j) = byt w j := by
  obtain ⟨f0, hf0⟩ := jfu_s
  obtain ⟨tape', e1, e2, e3⟩ := k_app_l (H := H) (z := z) (ops := ops) (ln := ln) (tk := tk) (ts := ts) (te := te) w (jlp3 (f_X6_append_h3 (fun h9 => some ((), h9)))) (fun _ => rfl) m hm 4 0 jfu tape (by omega) (by omega)
  exact ⟨tape', e1, fun j hj => e2 j (by omega), fun j hj => e3 j (Nat.zero_le _) hj⟩
theorem CI.rez {z : Nat} {H : jh} {b1 b2 : Nat} {Q Q2 : Nat → Option Nat} {I : Option Nat} {T TI : ta} {hi : Bool} {fl : Int32} {n : Nat} {tp : Nat → Int32} (C : CI z H b1 b2 Q Q2 I T hi TI fl n tp) {n' : Nat} {tp' : Nat → Int32} (tape ops : Nat → Int32) (ln tk ts te : Int32) (h : ∀ j, j < n' → tape j = tp' j) : CI z (pre H z tape ops (nI n') ln tk ts te) b1 b2 Q Q2 I T hi TI fl n' tp' := by
  have hz := C.hz
  have F : Fz H (pre H z tape ops (nI n') ln tk ts te) (fun q => z + 96 ≤ q ∧ q < z + 99) := ⟨Nat.le_refl _, fun q _ hq => pre_o q hq⟩
  refine C.mk F (fun q hq => by omega) ?_ (C.scz F (fun q hq => by omega)) (C.sp.fz F (by omega) (fun q g1 g2 => by omega)) (C.rd.fz F hz (fun q g1 g2 => by omega)) ⟨tape, ops, ln, tk, ts, te, pre_96, pre_97, pre_98, h⟩ ?_ id C.p1 C.p2
  · obtain ⟨sd, e⟩ := C.ob
    exact ⟨sd, by rw [pre_o _ (by omega)]; exact e⟩
  · obtain ⟨f, e⟩ := C.dr
    exact ⟨f, by rw [pre_o _ (by omega)]; exact e⟩
theorem k_feed {z : Nat} {H : jh} {b1 b2 : Nat} {Q Q2 : Nat → Option Nat} {I : Option Nat} {T TI : ta} {hi : Bool} {fl : Int32} {n : Nat} {tp : Nat → Int32} (C : CI z H b1 b2 Q Q2 I T hi TI fl n tp) (hn9 : n ≤ 900) (a b c d e : Int32) : ∃ H', f_X12_feed z a b c d e H = some ((if n + 20 ≤ 900 then nI (n + 20) else nm1), H') ∧ CI z H' b1 b2 Q Q2 I T hi TI fl (if n + 20 ≤ 900 then n + 20 else n) (if n + 20 ≤ 900 then fdT tp n a b c d e else tp) ∧ ∀ q, z + 100 ≤ q → q < z + 120 → H'.2.2 q = H.2.2 q := by
  obtain ⟨tape, ops, ln, tk, ts, te, h1, h2, h3, h4⟩ := C.re
  have hp := pre_id h1 h2 h3
  unfold f_X12_feed
  rw [C.r4, C.tp2, show nI n + (20 : Int32) = nI (n + 20) from al_add n 20]
  by_cases h9 : n + 20 ≤ 900
  · rw [if_pos (show nI (n + 20) ≤ 900 by rw [show (900 : Int32) = nI 900 from rfl, al_le (by omega) (by omega)]; exact h9), if_pos h9, if_pos h9, if_pos h9]
    obtain ⟨t1, a1, a2, a3⟩ := k_app (H := H) (z := z) (tape := tape) (ops := ops) (ln := ln) (tk := tk) (ts := ts) (te := te) a n (by omega)
    obtain ⟨t2, c1, c2, c3⟩ := k_app (H := H) (z := z) (tape := t1) (ops := ops) (ln := ln) (tk := tk) (ts := ts) (te := te) b (n + 4) (by omega)
    obtain ⟨t3, d1, d2, d3⟩ := k_app (H := H) (z := z) (tape := t2) (ops := ops) (ln := ln) (tk := tk) (ts := ts) (te := te) c (n + 4 + 4) (by omega)
    obtain ⟨t4, e1, e2, e3⟩ := k_app (H := H) (z := z) (tape := t3) (ops := ops) (ln := ln) (tk := tk) (ts := ts) (te := te) d (n + 4 + 4 + 4) (by omega)
    obtain ⟨t5, f1, f2, f3⟩ := k_app (H := H) (z := z) (tape := t4) (ops := ops) (ln := ln) (tk := tk) (ts := ts) (te := te) e (n + 4 + 4 + 4 + 4) (by omega)
    rw [hp] at a1
    have cz : ∀ t m, ∀ {β : Type} (K : Nat → Option β), gR (pre H z t ops m ln tk ts te) z 10 4 K = K (z + 96) := by
      intro t m β K
      obtain ⟨sd, eo⟩ := C.ob
      exact gR_of (by rw [pre_o _ (by omega)]; exact eo) rfl K
    rw [C.r4, cV_of h1, a1, bd_some, cz, pe_c, c1, bd_some, cz, pe_c, d1, bd_some, cz, pe_c, e1, bd_some, cz, pe_c, f1, bd_some, cz, pe_2, show n + 4 + 4 + 4 + 4 + 4 = n + 20 by omega]
    refine ⟨_, rfl, C.rez _ _ _ _ _ _ (fun j hj => ?_), fun q g1 g2 => pre_o q (by omega)⟩
    unfold fdT fdb
    by_cases k0 : j < n
    · rw [if_pos k0, f2 j (by omega), e2 j (by omega), d2 j (by omega), c2 j (by omega), a2 j k0]; exact h4 j k0
    · rw [if_neg k0]
      by_cases k1 : j - n < 4
      · rw [if_pos k1, f2 j (by omega), e2 j (by omega), d2 j (by omega), c2 j (by omega), show (j - n) % 4 = j - n by omega]
        have := a3 (j - n) (by omega)
        rw [show n + (j - n) = j by omega] at this
        exact this
      · rw [if_neg k1]
        by_cases k2 : j - n < 8
        · rw [if_pos k2, f2 j (by omega), e2 j (by omega), d2 j (by omega), show (j - n) % 4 = j - n - 4 by omega]
          have := c3 (j - n - 4) (by omega)
          rw [show n + 4 + (j - n - 4) = j by omega] at this
          exact this
        · rw [if_neg k2]
          by_cases k3 : j - n < 12
          · rw [if_pos k3, f2 j (by omega), e2 j (by omega), show (j - n) % 4 = j - n - 8 by omega]
            have := d3 (j - n - 8) (by omega)
            rw [show n + 4 + 4 + (j - n - 8) = j by omega] at this
            exact this
          · rw [if_neg k3]
            by_cases k4 : j - n < 16
            · rw [if_pos k4, f2 j (by omega), show (j - n) % 4 = j - n - 12 by omega]
              have := e3 (j - n - 12) (by omega)
              rw [show n + 4 + 4 + 4 + (j - n - 12) = j by omega] at this
              exact this
            · rw [if_neg k4, show (j - n) % 4 = j - n - 16 by omega]
              have := f3 (j - n - 16) (by omega)
              rw [show n + 4 + 4 + 4 + 4 + (j - n - 16) = j by omega] at this
              exact this
  · rw [if_neg (show ¬ nI (n + 20) ≤ 900 by rw [show (900 : Int32) = nI 900 from rfl, al_le (by omega) (by omega)]; exact h9), if_neg h9, if_neg h9, if_neg h9]
    exact ⟨H, rfl, C, fun _ _ _ => rfl⟩
