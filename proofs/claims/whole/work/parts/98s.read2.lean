/-! texts: the class's reader -/
theorem srt_1 {b : Nat} (h : b < 256) : srt b = 1 ↔ (97 ≤ b ∧ b ≤ 122) := by
  unfold srt
  rw [if_neg (by omega)]
  by_cases e : 97 ≤ b ∧ b ≤ 122
  · rw [if_pos e]; exact ⟨fun _ => e, fun _ => rfl⟩
  · rw [if_neg e]
    refine ⟨fun g => ?_, fun g => absurd g e⟩
    repeat' split at g
    all_goals omega
theorem rnn_all (B : Nat → Nat) (y : Nat) : ∀ k i j, i ≤ j → j < rnn B y k i → srt (B j) = y := by
  intro k
  induction k with
  | zero => intro i j h1 h2; rw [rnn] at h2; omega
  | succ k ih =>
    intro i j h1 h2
    rw [rnn] at h2
    by_cases e : srt (B i) = y
    · rw [if_pos e] at h2
      by_cases ej : j = i
      · rw [ej]; exact e
      · exact ih (i + 1) j (by omega) h2
    · rw [if_neg e] at h2; omega
theorem tk_n {B : Nat → Nat} {N : Nat} (h : BB B N) (p : Nat) (hp : p ≤ N) (hy : tY B N p = 1 ∨ tY B N p = 2) : tS B N p < tE B N p ∧ ∀ j, tS B N p ≤ j → j < tE B N p → srt (B j) = tY B N p := by
  have hb := tk_b h p hp
  have hs : tS B N p < N := by
    by_cases e : tS B N p = N
    · have : tY B N p = 0 := by unfold tY; rw [h.2.2 _ (by omega)]; rfl
      omega
    · omega
  have e : tE B N p = rnn B (tY B N p) (N - tS B N p) (tS B N p) := by unfold tE; rw [if_neg (by omega)]
  refine ⟨?_, fun j h1 h2 => rnn_all B _ _ _ j h1 (by rw [← e]; exact h2)⟩
  rw [e]
  obtain ⟨k, hk⟩ : ∃ k, N - tS B N p = k + 1 := ⟨N - tS B N p - 1, by omega⟩
  rw [hk, rnn, if_pos (show srt (B (tS B N p)) = tY B N p from rfl)]
  have := (rnn_le B (tY B N p) k (tS B N p + 1)).1
  omega
section RDC
variable {H : jh} {z : Nat} {tape ops : Nat → Int32} {n tk ts te : Int32} {B : Nat → Nat} {N : Nat}
theorem c_sort (hB : BB B N) (ht : ∀ j, j < N → tape j = nI (B j)) (i : Nat) (hi : i ≤ N) : f_X6_sortAt (z + 96) (nI i) (pre H z tape ops n (nI N) tk ts te) = some (nI (srt (B i)), pre H z tape ops n (nI N) tk ts te) := by
  have hN := hB.1
  unfold f_X6_sortAt
  rw [pe_3]
  by_cases h1 : i < N
  · have hb := hB.2.1 i h1
    rw [if_pos (by rw [al_lt (by omega) (by omega)]; exact h1), pe_0, pa_t i (by omega), ht i h1]
    unfold f_X6_sortAt_b31 f_X6_sortAt_b45 srt
    rw [if_neg (show ¬ B i = 300 by omega)]
    generalize B i = b at hb ⊢
    have l : ∀ q : Nat, q < 300 → ((nI b < (OfNat.ofNat q : Int32)) = (b < q)) := fun q hq => al_lt (by omega) (by omega)
    have g : ∀ q : Nat, q < 300 → (((OfNat.ofNat q : Int32) < nI b) = (q < b)) := fun q hq => al_lt (by omega) (by omega)
    have e : (nI b = 59) = (b = 59) := al_eq (b := 59) (by omega) (by omega)
    simp only [l 97 (by decide), g 122 (by decide), l 48 (by decide), g 57 (by decide), e]
    by_cases c1 : 97 ≤ b ∧ b ≤ 122
    · rw [if_neg (by omega), if_neg (by omega), if_pos c1]; rfl
    · rw [if_neg c1]
      by_cases c2 : 48 ≤ b ∧ b ≤ 57
      · rw [if_pos c2]
        rw [if_pos (show b < 97 by omega), if_neg (by omega), if_neg (by omega)]; rfl
      · rw [if_neg c2]
        have inner : (if b < 48 then (if ¬ b = 59 then some ((4 : Int32), pre H z tape ops n (nI N) tk ts te) else some (3, pre H z tape ops n (nI N) tk ts te)) else if 57 < b then (if ¬ b = 59 then some (4, pre H z tape ops n (nI N) tk ts te) else some (3, pre H z tape ops n (nI N) tk ts te)) else some (2, pre H z tape ops n (nI N) tk ts te)) = some (nI (if b = 59 then 3 else 4), pre H z tape ops n (nI N) tk ts te) := by
          by_cases c3 : b = 59
          · subst c3; rfl
          · rw [if_neg c3]
            by_cases c4 : b < 48
            · rw [if_pos c4, if_pos c3]; rfl
            · rw [if_neg c4, if_pos (by omega), if_pos c3]; rfl
        by_cases c4 : b < 97
        · rw [if_pos c4]; exact inner
        · rw [if_neg c4, if_pos (by omega)]; exact inner
  · rw [if_neg (by rw [al_lt (by omega) (by omega)]; exact h1), hB.2.2 i (by omega)]
    rfl
theorem c_skip_l (hB : BB B N) (ht : ∀ j, j < N → tape j = nI (B j)) (K : Nat → jh → Option (Unit × jh)) (L : Nat → Nat → jh → Option (Unit × jh)) (hL : ∀ f, L (f + 1) = f_X6_nextToken_h8 K (L f)) : ∀ k i f, i + k = N → k + 1 ≤ f → L f (z + 96) (pre H z tape ops n (nI N) tk (nI i) te) = K (z + 96) (pre H z tape ops n (nI N) tk (nI (skp B k i)) te) := by
  have hN := hB.1
  intro k
  induction k with
  | zero =>
    intro i f hi hf
    obtain ⟨f, rfl⟩ : ∃ g, f = g + 1 := ⟨f - 1, by omega⟩
    rw [hL]
    unfold f_X6_nextToken_h8
    rw [pe_5, pe_3, if_pos (by rw [al_le (by omega) (by omega)]; omega), skp]
  | succ k ih =>
    intro i f hi hf
    obtain ⟨f, rfl⟩ : ∃ g, f = g + 1 := ⟨f - 1, by omega⟩
    have hb := hB.2.1 i (by omega)
    have e32 : (nI (B i) = 32) = (B i = 32) := al_eq (b := 32) (by omega) (by omega)
    have e10 : (nI (B i) = 10) = (B i = 10) := al_eq (b := 10) (by omega) (by omega)
    rw [hL]
    unfold f_X6_nextToken_h8 f_X6_nextToken_b47
    rw [pe_5, pe_3, if_neg (by rw [al_le (by omega) (by omega)]; omega), pe_0, pe_5, pa_t i (by omega), ht i (by omega), pe_5, pp_5, pe_0, pe_5, pa_t i (by omega), ht i (by omega), show nI i + (1 : Int32) = nI (i + 1) from al_add i 1, ih (i + 1) f (by omega) (by omega), skp]
    by_cases c1 : B i = 32
    · rw [if_pos (by rw [e32]; exact c1), if_pos (Or.inl c1)]
    · rw [if_neg (by rw [e32]; exact c1)]
      by_cases c2 : B i = 10
      · rw [if_neg (not_not_intro (by rw [e10]; exact c2)), if_pos (Or.inr c2)]
      · rw [if_pos (by rw [e10]; exact c2), if_neg (by omega)]
theorem c_run_l (hB : BB B N) (ht : ∀ j, j < N → tape j = nI (B j)) (y : Nat) (hy : y < 100) (L : Nat → Nat → jh → Option (Unit × jh)) (hL : ∀ f, L (f + 1) = f_X6_nextToken_h107 (fun h40 => some ((), h40)) (L f)) : ∀ k i f, i + k = N → k + 1 ≤ f → L f (z + 96) (pre H z tape ops n (nI N) (nI y) ts (nI i)) = some ((), pre H z tape ops n (nI N) (nI y) ts (nI (rnn B y k i))) := by
  have hN := hB.1
  intro k
  induction k with
  | zero =>
    intro i f hi hf
    obtain ⟨f, rfl⟩ : ∃ g, f = g + 1 := ⟨f - 1, by omega⟩
    rw [hL]
    unfold f_X6_nextToken_h107
    rw [pe_6, pe_3, if_pos (by rw [al_le (by omega) (by omega)]; omega), rnn]
  | succ k ih =>
    intro i f hi hf
    obtain ⟨f, rfl⟩ : ∃ g, f = g + 1 := ⟨f - 1, by omega⟩
    have hs := srt_le (B i)
    have es : (nI (srt (B i)) = nI y) = (srt (B i) = y) := al_eq (by omega) (by omega)
    rw [hL]
    unfold f_X6_nextToken_h107
    rw [pe_6, pe_3, if_neg (by rw [al_le (by omega) (by omega)]; omega), pe_6, pe_c, c_sort hB ht i (by omega), bd_some, pe_4, pe_6, pp_6, show nI i + (1 : Int32) = nI (i + 1) from al_add i 1, ih (i + 1) f (by omega) (by omega), rnn]
    by_cases c1 : srt (B i) = y
    · rw [if_neg (not_not_intro (by rw [es]; exact c1)), if_pos c1]
    · rw [if_pos (by rw [es]; exact c1), if_neg c1]
theorem c_next' (hB : BB B N) (ht : ∀ j, j < N → tape j = nI (B j)) (p : Nat) (hp : p ≤ N) : f_X6_nextToken (z + 96) (pre H z tape ops n (nI N) tk ts (nI p)) = some ((), pre H z tape ops n (nI N) (nI (tY B N p)) (nI (tS B N p)) (nI (tE B N p))) := by
  obtain ⟨f0, hf0⟩ := jfu_s
  have hN := hB.1
  have hb := tk_b hB p hp
  unfold f_X6_nextToken
  rw [pe_6, pp_5]
  refine (c_skip_l (z := z) hB ht (fun y17 h16 => f_X6_nextToken_b60 y17 h16) (jlp1 (f_X6_nextToken_h8 (fun y17 h16 => f_X6_nextToken_b60 y17 h16))) (fun _ => rfl) (N - p) p jfu (by omega) (by omega)).trans ?_
  show f_X6_nextToken_b60 (z + 96) (pre H z tape ops n (nI N) tk (nI (tS B N p)) (nI p)) = _
  unfold f_X6_nextToken_b60 f_X6_nextToken_b96
  rw [pe_5, pp_6, pe_5, pe_c, c_sort hB ht (tS B N p) (by omega), bd_some, pp_4, pe_4]
  have e3 : (nI (srt (B (tS B N p))) = 3) = (tY B N p = 3) := al_eq (b := 3) (by have := srt_le (B (tS B N p)); omega) (by omega)
  have e4 : (nI (srt (B (tS B N p))) = 4) = (tY B N p = 4) := al_eq (b := 4) (by have := srt_le (B (tS B N p)); omega) (by omega)
  by_cases c3 : tY B N p = 3
  · rw [if_pos (by rw [e3]; exact c3), pe_6, pp_6, show nI (tS B N p) + (1 : Int32) = nI (tS B N p + 1) from al_add _ 1, show tE B N p = tS B N p + 1 from if_pos (Or.inl c3)]; rfl
  · rw [if_neg (by rw [e3]; exact c3), pe_4]
    by_cases c4 : tY B N p = 4
    · rw [if_neg (not_not_intro (by rw [e4]; exact c4)), pe_6, pp_6, show nI (tS B N p) + (1 : Int32) = nI (tS B N p + 1) from al_add _ 1, show tE B N p = tS B N p + 1 from if_pos (Or.inr c4)]; rfl
    · rw [if_pos (by rw [e4]; exact c4), show tE B N p = rnn B (tY B N p) (N - tS B N p) (tS B N p) from if_neg (by omega)]
      exact c_run_l (z := z) hB ht (tY B N p) (by omega) (jlp1 (f_X6_nextToken_h107 (fun h40 => some ((), h40)))) (fun _ => rfl) (N - tS B N p) (tS B N p) jfu (by omega) (by omega)
theorem tx_b : ∀ k : Nat, k < 17 → (jv_tx.getD k []).length ≤ 7 ∧ ∀ i, i < (jv_tx.getD k []).length → (jv_tx.getD k []).getD i 0 < 200 := by
  have : ∀ k : Fin 17, (jv_tx.getD k.1 []).length ≤ 7 ∧ ∀ i : Fin 7, i.1 < (jv_tx.getD k.1 []).length → (jv_tx.getD k.1 []).getD i.1 0 < 200 := by decide +kernel
  intro k hk
  obtain ⟨h1, h2⟩ := this ⟨k, hk⟩
  exact ⟨h1, fun i hi => h2 ⟨i, by have h1 : (jv_tx.getD k []).length ≤ 7 := h1; omega⟩ hi⟩
theorem c_isW_l (hB : BB B N) (ht : ∀ j, j < N → tape j = nI (B j)) (k st : Nat) (hk : k < 17) (hst : st + (jv_tx.getD k []).length ≤ N) (L : Nat → Nat → Nat → Int32 → jh → Option (Int32 × jh)) (hL : ∀ f, L (f + 1) = f_X6_isWord_h28 (fun h14 => some (1, h14)) (L f)) : ∀ r i f, i + r = (jv_tx.getD k []).length → r + 1 ≤ f → L f (z + 96) k (nI i) (pre H z tape ops n (nI N) tk (nI st) te) = some (bn (alls (fun i => decide (B (st + i) = (jv_tx.getD k []).getD i 0)) r i), pre H z tape ops n (nI N) tk (nI st) te) := by
  have hN := hB.1
  obtain ⟨b1, b2⟩ := tx_b k hk
  intro r
  induction r with
  | zero =>
    intro i f hi hf
    obtain ⟨f, rfl⟩ : ∃ g, f = g + 1 := ⟨f - 1, by omega⟩
    rw [hL]
    unfold f_X6_isWord_h28
    rw [tL_e hk, if_pos (by rw [al_le (by omega) (by omega)]; omega), alls]
    rfl
  | succ r ih =>
    intro i f hi hf
    obtain ⟨f, rfl⟩ : ∃ g, f = g + 1 := ⟨f - 1, by omega⟩
    have hb := hB.2.1 (st + i) (by omega)
    have hc := b2 i (by omega)
    rw [hL]
    unfold f_X6_isWord_h28
    rw [tL_e hk, if_neg (by rw [al_le (by omega) (by omega)]; omega), pe_0, pe_5, al_add, pa_t (st + i) (by omega), ht (st + i) (by omega), tC_e hk (by omega) (by omega), show nI i + (1 : Int32) = nI (i + 1) from al_add i 1, ih (i + 1) f (by omega) (by omega), alls]
    by_cases c1 : B (st + i) = (jv_tx.getD k []).getD i 0
    · rw [if_pos (by rw [c1]), decide_eq_true c1, Bool.true_and]
    · rw [if_neg (by rw [al_eq (by omega) (by omega)]; exact c1), decide_eq_false c1, Bool.false_and]; rfl
theorem c_isW (hB : BB B N) (ht : ∀ j, j < N → tape j = nI (B j)) (k y st en : Nat) (hk : k < 17) (hy : y < 100) (h1 : st ≤ en) (h2 : en ≤ N) : f_X6_isWord (z + 96) k (pre H z tape ops n (nI N) (nI y) (nI st) (nI en)) = some (bn (decide (y = 1) && isWd B st en (jv_tx.getD k [])), pre H z tape ops n (nI N) (nI y) (nI st) (nI en)) := by
  obtain ⟨f0, hf0⟩ := jfu_s
  have hN := hB.1
  obtain ⟨b1, b2⟩ := tx_b k hk
  have e1 : (nI y = 1) = (y = 1) := al_eq (b := 1) (by omega) (by omega)
  unfold f_X6_isWord
  rw [pe_4]
  by_cases c1 : y = 1
  · rw [if_neg (not_not_intro (by rw [e1]; exact c1)), pe_6, pe_5, tL_e hk, al_sub h1, decide_eq_true c1, Bool.true_and]
    unfold isWd
    by_cases c2 : en - st = (jv_tx.getD k []).length
    · rw [if_pos (by rw [c2]), decide_eq_true c2, Bool.true_and]
      exact c_isW_l (z := z) hB ht k st hk (by omega) (jlp3 (f_X6_isWord_h28 (fun h14 => some (1, h14)))) (fun _ => rfl) _ 0 jfu (by omega) (by omega)
    · rw [if_neg (by rw [al_eq (by omega) (by omega)]; exact c2), decide_eq_false c2, Bool.false_and]; rfl
  · rw [if_pos (by rw [e1]; exact c1), decide_eq_false c1, Bool.false_and]; rfl
theorem c_named_l (hB : BB B N) (ht : ∀ j, j < N → tape j = nI (B j)) (y st en : Nat) (hy : y < 100) (h1 : st ≤ en) (h2 : en ≤ N) (L : Nat → Nat → Int32 → jh → Option (Option Nat × jh)) (hL : ∀ f, L (f + 1) = f_X6_actNamed_h2 (fun h8 => some (none, h8)) (L f)) : ∀ r i f, i + r = 11 → r + 1 ≤ f → L f (z + 96) (nI i) (pre H z tape ops n (nI N) (nI y) (nI st) (nI en)) = some ((if ff (fun k => decide (y = 1) && isWd B st en (jv_tx.getD k [])) r i = 11 then none else some (ff (fun k => decide (y = 1) && isWd B st en (jv_tx.getD k [])) r i)), pre H z tape ops n (nI N) (nI y) (nI st) (nI en)) := by
  intro r
  induction r with
  | zero =>
    intro i f hi hf
    obtain ⟨f, rfl⟩ : ∃ g, f = g + 1 := ⟨f - 1, by omega⟩
    rw [hL]
    unfold f_X6_actNamed_h2
    rw [if_pos (show Int32.ofNat 11 ≤ nI i by rw [show Int32.ofNat 11 = nI 11 from rfl, al_le (by omega) (by omega)]; omega), ff, if_pos (by omega)]
  | succ r ih =>
    intro i f hi hf
    obtain ⟨f, rfl⟩ : ∃ g, f = g + 1 := ⟨f - 1, by omega⟩
    rw [hL]
    unfold f_X6_actNamed_h2
    rw [if_neg (show ¬ Int32.ofNat 11 ≤ nI i by rw [show Int32.ofNat 11 = nI 11 from rfl, al_le (by omega) (by omega)]; omega), eA_e (by omega), show eW i _ = _ from if_pos (show i < 11 by omega), pe_c, c_isW hB ht i y st en (by omega) hy h1 h2, bd_some, ff, show nI i + (1 : Int32) = nI (i + 1) from al_add i 1]
    by_cases c1 : (decide (y = 1) && isWd B st en (jv_tx.getD i [])) = true
    · rw [c1, if_neg (show ¬ bn true = 0 by decide), if_pos rfl, eA_e (by omega), if_neg (by omega)]
    · have c0 : (decide (y = 1) && isWd B st en (jv_tx.getD i [])) = false := by simpa using c1
      rw [c0, if_pos (show bn false = 0 by decide), if_neg (show ¬ (false = true) by decide)]
      exact ih (i + 1) f (by omega) (by omega)
theorem whW_ff (B : Nat → Nat) (N p : Nat) : ff (fun k => decide (tY B N p = 1) && isWd B (tS B N p) (tE B N p) (jv_tx.getD k [])) 11 0 = whW B N p := by
  unfold whW
  by_cases c : tY B N p = 1
  · rw [if_pos c]
    exact ff_eq 11 0 (fun j _ _ => by rw [decide_eq_true c, Bool.true_and])
  · rw [if_neg c]
    have : ∀ r i, ff (fun k => decide (tY B N p = 1) && isWd B (tS B N p) (tE B N p) (jv_tx.getD k [])) r i = i + r := by
      intro r
      induction r with
      | zero => intro i; rfl
      | succ r ih =>
        intro i
        rw [ff, if_neg (by simp [c]), ih]
        omega
    exact this 11 0
theorem c_named (hB : BB B N) (ht : ∀ j, j < N → tape j = nI (B j)) (p : Nat) (hp : p ≤ N) : f_X6_actNamed (z + 96) (pre H z tape ops n (nI N) (nI (tY B N p)) (nI (tS B N p)) (nI (tE B N p))) = some ((if whW B N p = 11 then none else some (whW B N p)), pre H z tape ops n (nI N) (nI (tY B N p)) (nI (tS B N p)) (nI (tE B N p))) := by
  obtain ⟨f0, hf0⟩ := jfu_s
  have hb := tk_b hB p hp
  have := c_named_l (z := z) (H := H) (ops := ops) (n := n) hB ht (tY B N p) (tS B N p) (tE B N p) (by omega) hb.2.1 hb.2.2.1 (jlp2 (f_X6_actNamed_h2 (fun h8 => some (none, h8)))) (fun _ => rfl) 11 0 jfu (by omega) (by omega)
  rw [whW_ff] at this
  exact this
def dgt (B : Nat → Nat) : Nat → Nat → Nat → Nat
  | 0, _, v => v
  | k + 1, i, v => dgt B k (i + 1) (10 * v + (B i - 48))
theorem c_dgt_l (hB : BB B N) (ht : ∀ j, j < N → tape j = nI (B j)) (a1 a2 : Int32) (en : Nat) (hen : en ≤ N) (K : Nat → Int32 → Int32 → Int32 → jh → Option (Int32 × jh)) (L : Nat → Nat → Int32 → Int32 → Int32 → Int32 → jh → Option (Int32 × jh)) (hL : ∀ f, L (f + 1) = f_X6_readNumber_h33 K (L f)) : ∀ k i v f, i + k = en → k ≤ 2 → v < 1000 → k + 1 ≤ f → (∀ j, i ≤ j → j < en → 48 ≤ B j) → L f (z + 96) a1 a2 (nI v) (nI i) (pre H z tape ops n (nI N) tk ts (nI en)) = K (z + 96) a1 a2 (nI (dgt B k i v)) (pre H z tape ops n (nI N) tk ts (nI en)) := by
  have hN := hB.1
  intro k
  induction k with
  | zero =>
    intro i v f hi hk hv hf hd
    obtain ⟨f, rfl⟩ : ∃ g, f = g + 1 := ⟨f - 1, by omega⟩
    rw [hL]
    unfold f_X6_readNumber_h33
    rw [pe_6, if_pos (by rw [al_le (by omega) (by omega)]; omega), dgt]
  | succ k ih =>
    intro i v f hi hk hv hf hd
    obtain ⟨f, rfl⟩ : ∃ g, f = g + 1 := ⟨f - 1, by omega⟩
    have hb := hB.2.1 i (by omega)
    have hd0 := hd i (Nat.le_refl _) (by omega)
    have ev : nI v * 10 + nI (B i) - 48 = nI (10 * v + (B i - 48)) := by
      rw [show (10 : Int32) = nI 10 from rfl, al_mul, al_add, show (48 : Int32) = nI 48 from rfl, al_sub (by omega)]
      congr 1
      omega
    rw [hL]
    unfold f_X6_readNumber_h33
    rw [pe_6, if_neg (by rw [al_le (by omega) (by omega)]; omega), pe_3, if_neg (by rw [al_le (by omega) (by omega)]; omega), pe_0, pa_t i (by omega), ht i (by omega), ev, show nI i + (1 : Int32) = nI (i + 1) from al_add i 1, dgt]
    by_cases k0 : k = 0
    · subst k0
      obtain ⟨f, rfl⟩ : ∃ g, f = g + 1 := ⟨f - 1, by omega⟩
      rw [hL]
      unfold f_X6_readNumber_h33
      rw [pe_6, if_pos (by rw [al_le (by omega) (by omega)]; omega), dgt]
    · by_cases v0 : v < 70
      · exact ih (i + 1) _ f (by omega) (by omega) (by omega) (by omega) (fun j h1 h2 => hd j (by omega) h2)
      · have k1 : k = 1 := by omega
        subst k1
        obtain ⟨f, rfl⟩ : ∃ g, f = g + 1 + 1 := ⟨f - 2, by omega⟩
        have hb1 := hB.2.1 (i + 1) (by omega)
        have hd1 := hd (i + 1) (by omega) (by omega)
        have ev1 : nI (10 * v + (B i - 48)) * 10 + nI (B (i + 1)) - 48 = nI (10 * (10 * v + (B i - 48)) + (B (i + 1) - 48)) := by
          rw [show (10 : Int32) = nI 10 from rfl, al_mul, al_add, show (48 : Int32) = nI 48 from rfl, al_sub (by omega)]
          congr 1
          omega
        rw [hL]
        unfold f_X6_readNumber_h33
        rw [pe_6, if_neg (by rw [al_le (by omega) (by omega)]; omega), pe_3, if_neg (by rw [al_le (by omega) (by omega)]; omega), pe_0, pa_t (i + 1) (by omega), ht (i + 1) (by omega), ev1, show nI (i + 1) + (1 : Int32) = nI (i + 1 + 1) from al_add (i + 1) 1, hL]
        unfold f_X6_readNumber_h33
        rw [pe_6, if_pos (by rw [al_le (by omega) (by omega)]; omega)]
        rfl
theorem rdV_b {B : Nat → Nat} {N : Nat} (h : BB B N) (p : Nat) (hp : p ≤ N) (hy : tY B N p = 2) (hl : tE B N p - tS B N p ≤ 2) : dgt B (tE B N p - tS B N p) (tS B N p) 0 = rdV B N p ∧ rdV B N p ≤ 99 ∧ ∀ j, tS B N p ≤ j → j < tE B N p → 48 ≤ B j ∧ B j ≤ 57 := by
  obtain ⟨h1, h2⟩ := tk_n h p hp (Or.inr hy)
  have hb := tk_b h p hp
  have hd : ∀ j, tS B N p ≤ j → j < tE B N p → 48 ≤ B j ∧ B j ≤ 57 := by
    intro j g1 g2
    have := h2 j g1 g2
    rw [hy] at this
    unfold srt at this
    repeat' split at this
    all_goals omega
  refine ⟨?_, ?_, hd⟩
  · have : tE B N p - tS B N p = 1 ∨ tE B N p - tS B N p = 2 := by omega
    unfold rdV
    rcases this with e | e
    · rw [e, if_pos rfl]; show 10 * 0 + _ = _; omega
    · rw [e, if_neg (by decide)]; show 10 * (10 * 0 + _) + _ = _; omega
  · unfold rdV
    have := hd (tS B N p) (Nat.le_refl _) h1
    split
    · omega
    · have := hd (tS B N p + 1) (by omega) (by omega)
      omega
theorem c_num (hB : BB B N) (ht : ∀ j, j < N → tape j = nI (B j)) (p i c : Nat) (hp : p ≤ N) (hi : i < 5) (hc : c < 200) : ∃ ops', f_X6_readNumber (z + 96) (nI i) (nI c) (pre H z tape ops n (nI N) (nI (tY B N p)) (nI (tS B N p)) (nI (tE B N p))) = some (nI (nfl B N (gtt c) p), pre H z tape ops' n (nI N) (nI (tY B N p)) (nI (tS B N p)) (nI (tE B N p))) ∧ (∀ j, j ≠ i → ops' j = ops j) ∧ (nfl B N (gtt c) p = 0 → ops' i = nI (rdV B N p)) := by
  obtain ⟨f0, hf0⟩ := jfu_s
  have hN := hB.1
  have hb := tk_b hB p hp
  have e2 : (nI (tY B N p) = 2) = (tY B N p = 2) := al_eq (b := 2) (by omega) (by omega)
  unfold f_X6_readNumber nfl
  rw [pe_4]
  by_cases c1 : tY B N p = 2
  · rw [if_pos (by rw [e2]; exact c1), if_pos c1, pe_6, pe_5, al_sub hb.2.1]
    by_cases c2 : tE B N p - tS B N p ≤ 2
    · obtain ⟨d1, d2, d3⟩ := rdV_b hB p hp c1 c2
      rw [if_pos (by rw [show (2 : Int32) = nI 2 from rfl, al_le (by omega) (by omega)]; exact c2), if_pos c2, pe_5]
      have e9 := c_dgt_l (z := z) (H := H) (ops := ops) (n := n) (tk := nI (tY B N p)) (ts := nI (tS B N p)) hB ht (nI i) (nI c) (tE B N p) hb.2.2.1 (fun y14 y15 y16 y17 h13 => f_X6_readNumber_b73 y14 y15 y16 y17 h13) (jlp5 (f_X6_readNumber_h33 (fun y14 y15 y16 y17 h13 => f_X6_readNumber_b73 y14 y15 y16 y17 h13))) (fun _ => rfl) (tE B N p - tS B N p) (tS B N p) 0 jfu (by omega) c2 (by omega) (by omega) (fun j h1 h2 => (d3 j h1 h2).1)
      rw [d1] at e9
      have eg : ∀ h, f_X6_greatest (nI c) h = some (nI (gtt c), h) := by
        intro h
        have k1 : (nI c = 112) = (c = 112) := al_eq (b := 112) (by omega) (by omega)
        have k2 : (nI c = 115) = (c = 115) := al_eq (b := 115) (by omega) (by omega)
        unfold f_X6_greatest gtt
        by_cases g1 : c = 112
        · rw [if_neg (not_not_intro (by rw [k1]; exact g1)), if_pos g1]; rfl
        · rw [if_pos (by rw [k1]; exact g1), if_neg g1]
          by_cases g2 : c = 115
          · rw [if_neg (not_not_intro (by rw [k2]; exact g2)), if_pos g2]; rfl
          · rw [if_pos (by rw [k2]; exact g2), if_neg g2]; rfl
      have hg : gtt c ≤ 99 := by unfold gtt; split <;> (try split) <;> omega
      refine ⟨upd ops i (nI (rdV B N p)), ?_, fun j hj => if_neg hj, fun _ => if_pos rfl⟩
      refine Eq.trans e9 ?_
      show f_X6_readNumber_b73 (z + 96) (nI i) (nI c) (nI (rdV B N p)) _ = _
      unfold f_X6_readNumber_b73
      rw [pe_1, pw_o i hi, eg, bd_some]
      by_cases c3 : rdV B N p ≤ gtt c
      · rw [if_pos (by rw [al_le (by omega) (by omega)]; exact c3), if_pos c3]; rfl
      · rw [if_neg (by rw [al_le (by omega) (by omega)]; exact c3), if_neg c3]; rfl
    · rw [if_neg (by rw [show (2 : Int32) = nI 2 from rfl, al_le (by omega) (by omega)]; exact c2), if_neg c2]
      exact ⟨ops, rfl, fun _ _ => rfl, fun h => by cases h⟩
  · rw [if_neg (by rw [e2]; exact c1), if_neg c1]
    exact ⟨ops, rfl, fun _ _ => rfl, fun h => by cases h⟩
theorem c_kind (hB : BB B N) (ht : ∀ j, j < N → tape j = nI (B j)) (p i : Nat) (hp : p ≤ N) (hi : i < 5) : ∃ ops', f_X6_readKind (z + 96) (nI i) (pre H z tape ops n (nI N) (nI (tY B N p)) (nI (tS B N p)) (nI (tE B N p))) = some (nI (kfl B N p), pre H z tape ops' n (nI N) (nI (tY B N p)) (nI (tS B N p)) (nI (tE B N p))) ∧ (∀ j, j ≠ i → ops' j = ops j) ∧ (kfl B N p = 0 → ops' i = kvl (whW B N p)) := by
  have hw := whW_le B N p
  unfold f_X6_readKind kfl
  rw [pe_c, c_named hB ht p hp, bd_some]
  have no : whW B N p = 11 ∨ whW B N p = 0 ∨ (4 ≤ whW B N p ∧ whW B N p < 11) ∨ whW B N p = 1 ∨ whW B N p = 2 ∨ whW B N p = 3 := by omega
  unfold f_X6_readKind_b28
  rcases no with e | e | e | e | e | e
  · rw [if_pos e, if_neg (by omega)]
    exact ⟨ops, rfl, fun _ _ => rfl, fun h => by cases h⟩
  · rw [if_neg (by omega), e, if_neg (by omega)]
    exact ⟨ops, rfl, fun _ _ => rfl, fun h => by cases h⟩
  · rw [if_neg (by omega), if_neg (by omega)]
    refine ⟨ops, ?_, fun _ _ => rfl, fun h => by cases h⟩
    have ac : ∀ (k : Nat) (X Y : Option (Int32 × jh)), k < 4 → acm (some (whW B N p)) k X Y = Y := by
      intro k X Y hk
      show (if whW B N p < 11 then (if whW B N p = k then X else Y) else none) = Y
      rw [if_pos (by omega), if_neg (by omega)]
    rw [ac 1 _ _ (by omega), ac 2 _ _ (by omega), ac 3 _ _ (by omega)]
    rfl
  · rw [if_neg (by omega), e, if_pos (by omega)]
    refine ⟨upd ops i (nI 1), ?_, fun j hj => if_neg hj, fun _ => if_pos rfl⟩
    show (gR (pre H z tape ops n (nI N) (nI (tY B N p)) (nI (tS B N p)) (nI (tE B N p))) (z + 96) 4 1 fun v3 => sI _ v3 (nI i) 1 fun h6 => some (0, h6)) = _
    rw [pe_1, pw_o i hi]; rfl
  · rw [if_neg (by omega), e, if_pos (by omega)]
    refine ⟨upd ops i (nI 0), ?_, fun j hj => if_neg hj, fun _ => if_pos rfl⟩
    show (gR (pre H z tape ops n (nI N) (nI (tY B N p)) (nI (tS B N p)) (nI (tE B N p))) (z + 96) 4 1 fun v3 => sI _ v3 (nI i) 0 fun h6 => some (0, h6)) = _
    rw [pe_1, pw_o i hi]; rfl
  · rw [if_neg (by omega), e, if_pos (by omega)]
    refine ⟨upd ops i (nI 2), ?_, fun j hj => if_neg hj, fun _ => if_pos rfl⟩
    show (gR (pre H z tape ops n (nI N) (nI (tY B N p)) (nI (tS B N p)) (nI (tE B N p))) (z + 96) 4 1 fun v3 => sI _ v3 (nI i) 2 fun h6 => some (0, h6)) = _
    rw [pe_1, pw_o i hi]; rfl
end RDC
