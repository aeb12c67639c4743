/-! the class's deeds: fork; all of them -/
/-- the state on the way of a fork: the numbers of the child in the spaces of a list given -/
def fkE (v : vw) (p c : Nat) (D : List Nat) : vw := fun a j =>
  if a < 8 ∧ j = c then (if a = 1 then p else if a = 2 then v 5 p else v a p)
  else if a = 8 ∧ 8 * c ≤ j ∧ j < 8 * c + 8 then (if (j - 8 * c) ∈ D then fre v (j - 8 * c) (decide (j - 8 * c = v 5 p)) else 0)
  else if a = 50 ∧ j ∈ D ∧ 1 < fre v j (decide (j = v 5 p)) then fre v j (decide (j = v 5 p))
  else if a = 51 ∧ j = v 5 p ∧ v 5 p ∈ D ∧ v 51 (v 5 p) = 0 then c + 2 else v a j
theorem fkE_ne (v : vw) (p c : Nat) (D : List Nat) (a j : Nat) (h0 : ¬ (a < 8 ∧ j = c)) (h1 : a ≠ 8) (h2 : a ≠ 50) (h3 : a ≠ 51) : fkE v p c D a j = v a j := by
  unfold fkE; rw [if_neg h0, if_neg (by omega), if_neg (by omega), if_neg (by omega)]
theorem fkE_c (v : vw) (p c : Nat) (D : List Nat) (a : Nat) (h0 : a < 8) : fkE v p c D a c = if a = 1 then p else if a = 2 then v 5 p else v a p := by
  unfold fkE; rw [if_pos ⟨h0, rfl⟩]
theorem fkE_8 (v : vw) (p c : Nat) (D : List Nat) (y : Nat) (hy : y < 8) : fkE v p c D 8 (8 * c + y) = if y ∈ D then fre v y (decide (y = v 5 p)) else 0 := by
  unfold fkE; rw [if_neg (by omega), if_pos ⟨rfl, by omega, by omega⟩, Nat.add_sub_cancel_left]
theorem fkE_8' (v : vw) (p c : Nat) (D : List Nat) (j : Nat) (h : ¬ (8 * c ≤ j ∧ j < 8 * c + 8)) : fkE v p c D 8 j = v 8 j := by
  unfold fkE; rw [if_neg (by omega), if_neg (by omega), if_neg (by omega), if_neg (by omega)]
theorem fkE_50 (v : vw) (p c : Nat) (D : List Nat) (y : Nat) : fkE v p c D 50 y = if y ∈ D ∧ 1 < fre v y (decide (y = v 5 p)) then fre v y (decide (y = v 5 p)) else v 50 y := by
  unfold fkE
  rw [if_neg (by omega), if_neg (by omega)]
  by_cases h : y ∈ D ∧ 1 < fre v y (decide (y = v 5 p))
  · rw [if_pos ⟨rfl, h⟩, if_pos h]
  · rw [if_neg (fun e => h e.2), if_neg h, if_neg (by omega)]
theorem fkE_51 (v : vw) (p c : Nat) (D : List Nat) (y : Nat) : fkE v p c D 51 y = if y = v 5 p ∧ v 5 p ∈ D ∧ v 51 (v 5 p) = 0 then c + 2 else v 51 y := by
  unfold fkE
  rw [if_neg (by omega), if_neg (by omega), if_neg (by omega)]
  by_cases h : y = v 5 p ∧ v 5 p ∈ D ∧ v 51 (v 5 p) = 0
  · rw [if_pos ⟨rfl, h⟩, if_pos h]
  · rw [if_neg (fun e => h e.2), if_neg h]
theorem fkE_frk (v : vw) (p c : Nat) : fkE v p c (ch v 0 (v 5 p)) = frk v p c := by
  funext a j
  unfold fkE frk
  by_cases h1 : a < 8 ∧ j = c
  · rw [if_pos h1, if_pos h1]
  · rw [if_neg h1, if_neg h1]
    by_cases h2 : a = 8 ∧ 8 * c ≤ j ∧ j < 8 * c + 8
    · rw [if_pos h2, if_pos h2]
    · rw [if_neg h2, if_neg h2]
      by_cases h3 : a = 50 ∧ j ∈ ch v 0 (v 5 p) ∧ 1 < fre v j (decide (j = v 5 p))
      · rw [if_pos h3, if_pos h3]
      · rw [if_neg h3, if_neg h3]
        by_cases h4 : a = 51 ∧ j = v 5 p ∧ v 51 (v 5 p) = 0
        · rw [if_pos ⟨h4.1, h4.2.1, ch_self _ _ _, h4.2.2⟩, if_pos h4]
        · rw [if_neg (fun e => h4 ⟨e.1, e.2.1, e.2.2.2⟩), if_neg h4]
theorem WFv_fkE {v : vw} (W : WFv v) (p c : Nat) (D : List Nat) (hp : p < 16) (hc : c < 16) (hD : ∀ y, y ∈ D → y < v 10 0) (h51 : ∀ y, y ∈ D → y ≠ v 5 p → v 51 y ≠ 0) : WFv (fkE v p c D) := by
  have hq := W.pr p hp
  have hc0 := W.c0
  have N : ∀ a j, 9 ≤ a → a ≠ 50 → a ≠ 51 → fkE v p c D a j = v a j := fun a j h1 h2 h3 => fkE_ne _ _ _ _ _ _ (by omega) (by omega) h2 h3
  refine ⟨?_, ?_, ?_, ?_, ?_, ?_, ?_, ?_, ?_, ?_, ?_, ?_, ?_⟩
  · intro q hq1
    by_cases h : q = c
    · rw [h, fkE_c _ _ _ _ _ (by omega), if_neg (by omega), if_neg (by omega)]; exact W.th p hp
    · rw [fkE_ne _ _ _ _ _ _ (by omega) (by omega) (by omega) (by omega)]; exact W.th q hq1
  · intro k hk; rw [N _ _ (by omega) (by omega) (by omega)]; exact W.ct k hk
  · intro q hq1
    rw [N 10 0 (by omega) (by omega) (by omega), N 11 0 (by omega) (by omega) (by omega), N 12 0 (by omega) (by omega) (by omega)]
    by_cases h : q = c
    · rw [h]
      simp only [fkE_c v p c D 1 (by omega), fkE_c v p c D 2 (by omega), fkE_c v p c D 3 (by omega), fkE_c v p c D 4 (by omega), fkE_c v p c D 5 (by omega), fkE_c v p c D 6 (by omega), fkE_c v p c D 7 (by omega)]
      exact ⟨hp, hq.2.2.2.2.1, hq.2.2.1, hq.2.2.2.1, hq.2.2.2.2.1, hq.2.2.2.2.2.1, hq.2.2.2.2.2.2⟩
    · have F : ∀ a, a < 8 → fkE v p c D a q = v a q := fun a ha => fkE_ne _ _ _ _ _ _ (by omega) (by omega) (by omega) (by omega)
      rw [F 1 (by omega), F 2 (by omega), F 3 (by omega), F 4 (by omega), F 5 (by omega), F 6 (by omega), F 7 (by omega)]
      exact W.pr q hq1
  · intro q y hq1 hy
    by_cases h : q = c
    · rw [h, fkE_8 _ _ _ _ _ hy]
      by_cases h1 : y ∈ D
      · rw [if_pos h1]; exact fre_le W y _ (hD y h1)
      · rw [if_neg h1]; omega
    · rw [fkE_8' _ _ _ _ _ (by omega)]; exact W.nm q y hq1 hy
  · intro k s hk; rw [N _ _ (by omega) (by omega) (by omega), N (20 + k) _ (by omega) (by omega) (by omega)]; exact W.up k s hk
  · intro k s hk; rw [N _ _ (by omega) (by omega) (by omega), N (20 + k) _ (by omega) (by omega) (by omega), N (30 + k) _ (by omega) (by omega) (by omega), N (30 + k) _ (by omega) (by omega) (by omega)]; exact W.du k s hk
  · intro k hk; rw [N _ _ (by omega) (by omega) (by omega)]; exact W.d0 k hk
  · intro k s hk; rw [N _ _ (by omega) (by omega) (by omega), N (30 + k) _ (by omega) (by omega) (by omega)]; exact W.d4 k s hk
  · intro s
    rw [N 10 0 (by omega) (by omega) (by omega), N 40 s (by omega) (by omega) (by omega), N 11 0 (by omega) (by omega) (by omega)]
    intro hs
    have g := W.nk s hs
    rw [fkE_50, fkE_51]
    by_cases h : s ∈ D ∧ 1 < fre v s (decide (s = v 5 p))
    · rw [if_pos h]
      have := fre_le W s (decide (s = v 5 p)) hs
      have hn : ¬ (s = v 5 p ∧ v 5 p ∈ D ∧ v 51 (v 5 p) = 0) := by
        rintro ⟨e1, -, e3⟩
        have h3 := h.2
        unfold fre at h3; rw [if_pos ⟨by simp [e1], by rw [e1]; exact e3⟩] at h3; omega
      rw [if_neg hn]
      refine ⟨g.1, by omega, this, g.2.2.2.1, fun h0 => ?_⟩
      exfalso
      by_cases h2 : s = v 5 p
      · have h3 := h.2
        unfold fre at h3; rw [if_pos ⟨by simp [h2], h0⟩] at h3; omega
      · exact h51 s h.1 h2 h0
    · rw [if_neg h]
      by_cases h2 : s = v 5 p ∧ v 5 p ∈ D ∧ v 51 (v 5 p) = 0
      · rw [if_pos h2]; exact ⟨g.1, g.2.1, g.2.2.1, by omega, fun h => by omega⟩
      · rw [if_neg h2]; exact g
  · intro s; rw [N 11 0 (by omega) (by omega) (by omega), N 41 s (by omega) (by omega) (by omega), N 60 s (by omega) (by omega) (by omega)]; exact W.uk s
  · intro s r; rw [N 11 0 (by omega) (by omega) (by omega), N 61 _ (by omega) (by omega) (by omega), N 60 s (by omega) (by omega) (by omega), N 62 _ (by omega) (by omega) (by omega), N 63 _ (by omega) (by omega) (by omega)]; exact W.rg s r
  · intro s; rw [N 12 0 (by omega) (by omega) (by omega), N 42 s (by omega) (by omega) (by omega), N 11 0 (by omega) (by omega) (by omega), N 70 s (by omega) (by omega) (by omega)]; exact W.mk s
  · intro s i; rw [N 12 0 (by omega) (by omega) (by omega), N 71 _ (by omega) (by omega) (by omega)]; exact W.tg s i
theorem c_addz_l {h : jh} {w : Nat} {W : ms} (c : Nat) (hc : c < 16) (L : Nat → Nat → Int32 → Int32 → jh → Option (Unit × jh)) (hL : ∀ f, L (f + 1) = f_X5_add_h91 (fun h31 => some ((), h31)) (L f)) : ∀ k i n f, i + k = 8 → k + 1 ≤ f → L f (w + 1) (nI c) (nI i) (pw h w (sw W 6 n)) = some ((), pw h w (sw W 6 (zb n (8 * c) i 8))) := by
  intro k
  induction k with
  | zero =>
    intro i n f hi hf
    obtain ⟨f, rfl⟩ : ∃ g, f = g + 1 := ⟨f - 1, by omega⟩
    rw [hL]
    unfold f_X5_add_h91
    simp (discharger := omega) only [↓al_m, ↓al_m2, al_lit, al_add, al_mul, bd_some, bn_0, bn_1, bn_jz, al_le]
    rw [if_pos (by omega), show i = 8 by omega, zb_end]
  | succ k ih =>
    intro i n f hi hf
    obtain ⟨f, rfl⟩ : ∃ g, f = g + 1 := ⟨f - 1, by omega⟩
    rw [hL]
    unfold f_X5_add_h91
    simp (discharger := omega) only [↓al_m, ↓al_m2, al_lit, al_add, al_mul, bd_some, bn_0, bn_1, bn_jz, al_le, Nat.mul_comm c 8, pw_gR1_6, cw6, sw_eq, sw_sw]
    rw [if_neg (by omega), ih (i + 1) _ f (by omega) (by omega), zb_step _ _ _ _ (by omega)]
theorem c_padd {h : jh} {w : Nat} {W : ms} {v : vw} (C : ClsV W v) (Wf : WFv v) (p c : Nat) (hp : p < 16) (hp1 : v 0 p = 1) (hc : c < 16) (hc0 : v 0 c ≠ 1) : ∃ W', f_X5_add (w + 1) (nI c) (nI p) (pw h w W) = some ((), pw h w W') ∧ ClsV W' (fkE v p c []) := by
  have hpc : p ≠ c := fun e => hc0 (e ▸ hp1)
  have hq := Wf.pr p hp
  have e2 : W 2 p = nI (v 3 p) := C.pa p 2 hp (by decide)
  have e3 : W 3 p = nI (v 4 p) := C.pa p 3 hp (by decide)
  have e4 : W 4 p = nI (v 5 p) := C.pa p 4 hp (by decide)
  have e5 : W 5 p = nI (v 6 p) := C.pa p 5 hp (by decide)
  have e8 : hb (W 8 0) p = decide (v 7 p = 1) := by rw [C.pw p (by omega)]; simp [hp, hp1]
  obtain ⟨f, hf⟩ := jfu_s
  obtain ⟨r, hr, hr2⟩ := c_setPower (h := h) (w := w) (W := sw (sw (sw (sw (sw (sw (sw W 0 (upd (W 0) c (nI p))) 1 (upd (W 1) c (nI (v 5 p)))) 2 (upd (W 2) c (nI (v 3 p)))) 3 (upd (W 3) c (nI (v 4 p)))) 4 (upd (W 4) c (nI (v 5 p)))) 5 (upd (W 5) c (nI (v 6 p)))) 7 (fun _ => W 7 0 ||| bI c)) c (decide (v 7 p = 1)) hc
  have hz := c_addz_l (h := h) (w := w) (W := sw (sw (sw (sw (sw (sw (sw (sw W 0 (upd (W 0) c (nI p))) 1 (upd (W 1) c (nI (v 5 p)))) 2 (upd (W 2) c (nI (v 3 p)))) 3 (upd (W 3) c (nI (v 4 p)))) 4 (upd (W 4) c (nI (v 5 p)))) 5 (upd (W 5) c (nI (v 6 p)))) 7 (fun _ => W 7 0 ||| bI c)) 8 r) c hc (jlp3 (f_X5_add_h91 (fun h31 => some ((), h31)))) (fun _ => rfl) 8 0 (W 6) jfu (by omega) (by omega)
  have hid : sw (sw (sw (sw (sw (sw (sw (sw (sw W 0 (upd (W 0) c (nI p))) 1 (upd (W 1) c (nI (v 5 p)))) 2 (upd (W 2) c (nI (v 3 p)))) 3 (upd (W 3) c (nI (v 4 p)))) 4 (upd (W 4) c (nI (v 5 p)))) 5 (upd (W 5) c (nI (v 6 p)))) 7 (fun _ => W 7 0 ||| bI c)) 8 r) 6 (W 6) = sw (sw (sw (sw (sw (sw (sw (sw W 0 (upd (W 0) c (nI p))) 1 (upd (W 1) c (nI (v 5 p)))) 2 (upd (W 2) c (nI (v 3 p)))) 3 (upd (W 3) c (nI (v 4 p)))) 4 (upd (W 4) c (nI (v 5 p)))) 5 (upd (W 5) c (nI (v 6 p)))) 7 (fun _ => W 7 0 ||| bI c)) 8 r := by
    have := sw_id (sw (sw (sw (sw (sw (sw (sw (sw W 0 (upd (W 0) c (nI p))) 1 (upd (W 1) c (nI (v 5 p)))) 2 (upd (W 2) c (nI (v 3 p)))) 3 (upd (W 3) c (nI (v 4 p)))) 4 (upd (W 4) c (nI (v 5 p)))) 5 (upd (W 5) c (nI (v 6 p)))) 7 (fun _ => W 7 0 ||| bI c)) 8 r) 6
    simp (discharger := omega) only [sw_ne] at this
    exact this
  rw [hid] at hz
  have T : ClsV (sw (sw (sw (sw (sw (sw (sw (sw (sw W 0 (upd (W 0) c (nI p))) 1 (upd (W 1) c (nI (v 5 p)))) 2 (upd (W 2) c (nI (v 3 p)))) 3 (upd (W 3) c (nI (v 4 p)))) 4 (upd (W 4) c (nI (v 5 p)))) 5 (upd (W 5) c (nI (v 6 p)))) 7 (fun _ => W 7 0 ||| bI c)) 8 r) 6 (zb (W 6) (8 * c) 0 8)) (fkE v p c []) := by
    refine ClsV_add C Wf.bd c hc ?_ ?_ ?_ ?_ ?_ ?_ ?_
    · intro f hf; simp (discharger := omega) only [sw_ne]
    · intro a j hj
      unfold fkE
      rw [if_neg (by omega), if_neg (by omega), if_neg (by simp), if_neg (by simp)]
    · intro k hk
      rw [fkE_c _ _ _ _ _ (by omega)]
      have : k = 0 ∨ k = 1 ∨ k = 2 ∨ k = 3 ∨ k = 4 ∨ k = 5 := by omega
      rcases this with rfl | rfl | rfl | rfl | rfl | rfl <;> simp (discharger := omega) only [sw_ne, sw_eq] <;> rfl
    · intro j hj; rw [sw_eq]; exact zb_out (by omega)
    · intro y hy; rw [sw_eq, zb_in (by omega), fkE_8 _ _ _ _ _ hy, if_neg (by simp)]
    · intro i hi
      rw [sw_ne _ _ _ _ (by omega), sw_ne _ _ _ _ (by omega), sw_eq, hb_or, C.th i hi, hb_bI c i (by omega) hi]
      by_cases h1 : i = c
      · rw [h1, fkE_c _ _ _ _ _ (by omega), if_neg (by omega), if_neg (by omega), hp1]; simp [hc]
      · rw [fkE_ne _ _ _ _ _ _ (by omega) (by omega) (by omega) (by omega)]; simp [h1]
    · intro i hi
      have s8 : ∀ W9 : ms, W9 8 0 = W 8 0 → (∀ i, i < 32 → hb (r 0) i = if i = c then decide (v 7 p = 1) else hb (W9 8 0) i) → hb (r 0) i = if i = c then decide (v 7 p = 1) else hb (W 8 0) i := by
        intro W9 e g; rw [← e]; exact g i hi
      have hr3 := s8 _ (by simp (discharger := omega) only [sw_ne]) hr2
      rw [sw_ne _ _ _ _ (by omega), sw_eq, hr3, C.pw i hi]
      by_cases h1 : i = c
      · rw [if_pos h1, h1, fkE_c _ _ _ _ _ (by omega), fkE_c _ _ _ _ _ (by omega), if_neg (by omega), if_neg (by omega), if_neg (by omega), if_neg (by omega), hp1]; simp [hc]
      · rw [if_neg h1, fkE_ne _ _ _ _ _ _ (by omega) (by omega) (by omega) (by omega), fkE_ne _ _ _ _ _ _ (by omega) (by omega) (by omega) (by omega)]
  refine ⟨_, ?_, T⟩
  unfold f_X5_add f_X5_hasPower
  simp (discharger := omega) only [↓al_m, ↓al_m2, al_lit, al_add, al_mul, bd_some, bn_0, bn_1, bn_jz, pw_gR1_0, pw_gR1_1, pw_gR1_2, pw_gR1_3, pw_gR1_4, pw_gR1_5, cw0, cw1, cw2, cw3, cw4, cw5, cr2, cr3, cr4, cr5, sw_ne, sw_eq, e2, e3, e4, e5, pw_gI1_7, pw_gI1_8, pw_pV1_7, pw_cV1, bI_eq, c_holds, e8]
  rw [hr, bd_some]
  exact hz
theorem nxt_eq1 {P Q : Nat → Bool} (h : ∀ j, 1 ≤ j → P j = Q j) : ∀ k g, nxt P k g = nxt Q k g := by
  intro k
  induction k with
  | zero => intro g; rfl
  | succ k ih =>
    intro g
    rw [nxt, nxt, h _ (by split <;> omega), ih]
theorem tkn_fkE (v : vw) (p c : Nat) (D : List Nat) (hc0 : v 0 c ≠ 1) (x n : Nat) (hx : x < 8) (hxD : x ∉ D) (hn : 1 ≤ n) : tkn (fkE v p c D) x n = tkn v x n := by
  unfold tkn who
  have : ff (whP (fkE v p c D) x n) 16 0 = ff (whP v x n) 16 0 := by
    apply ff_eq
    intro q _ _
    unfold whP
    by_cases h : q = c
    · rw [h, fkE_8 _ _ _ _ _ hx, if_neg hxD]
      have : ¬ 0 = n := by omega
      simp [hc0, this]
    · rw [fkE_ne _ _ _ _ _ _ (by omega) (by omega) (by omega) (by omega), fkE_8' _ _ _ _ _ (by omega)]
  rw [this]
theorem fkE_nxt (v : vw) (p c : Nat) (D : List Nat) (hc0 : v 0 c ≠ 1) (x : Nat) (hx : x < 8) (hxD : x ∉ D) : nxt (tkn (fkE v p c D) x) 19 (fkE v p c D 50 x) = nxt (tkn v x) 19 (v 50 x) := by
  rw [fkE_50, if_neg (fun e => hxD e.1)]
  exact nxt_eq1 (fun j hj => tkn_fkE v p c D hc0 x j hx hxD hj) 19 _
theorem fkE_cons (v : vw) (p c o : Nat) (D : List Nat) (a j : Nat) (ho : o < 8) (h : ¬ (a = 8 ∧ j = 8 * c + o) ∧ ¬ (a = 50 ∧ j = o) ∧ ¬ (a = 51 ∧ j = o)) : fkE v p c (o :: D) a j = fkE v p c D a j := by
  unfold fkE
  by_cases h1 : a < 8 ∧ j = c
  · rw [if_pos h1, if_pos h1]
  · rw [if_neg h1, if_neg h1]
    by_cases h2 : a = 8 ∧ 8 * c ≤ j ∧ j < 8 * c + 8
    · rw [if_pos h2, if_pos h2]
      have h3 : j - 8 * c ≠ o := by omega
      by_cases h4 : j - 8 * c ∈ D
      · rw [if_pos h4, if_pos (List.mem_cons_of_mem _ h4)]
      · rw [if_neg h4, if_neg (by simp [h3, h4])]
    · rw [if_neg h2, if_neg h2]
      by_cases h3 : a = 50
      · have h4 : j ≠ o := by omega
        rw [if_neg (show ¬ (a = 51 ∧ j = v 5 p ∧ v 5 p ∈ D ∧ v 51 (v 5 p) = 0) by omega), if_neg (show ¬ (a = 51 ∧ j = v 5 p ∧ v 5 p ∈ o :: D ∧ v 51 (v 5 p) = 0) by omega)]
        by_cases h5 : a = 50 ∧ j ∈ D ∧ 1 < fre v j (decide (j = v 5 p))
        · rw [if_pos h5, if_pos ⟨h5.1, List.mem_cons_of_mem _ h5.2.1, h5.2.2⟩]
        · rw [if_neg h5, if_neg]
          rintro ⟨g1, g2, g3⟩
          rcases List.mem_cons.mp g2 with g4 | g4
          · exact h4 g4
          · exact h5 ⟨g1, g4, g3⟩
      · rw [if_neg (show ¬ (a = 50 ∧ j ∈ D ∧ 1 < fre v j (decide (j = v 5 p))) by omega), if_neg (show ¬ (a = 50 ∧ j ∈ o :: D ∧ 1 < fre v j (decide (j = v 5 p))) by omega)]
        by_cases h4 : a = 51 ∧ j = v 5 p ∧ v 5 p ∈ D ∧ v 51 (v 5 p) = 0
        · rw [if_pos h4, if_pos ⟨h4.1, h4.2.1, List.mem_cons_of_mem _ h4.2.2.1, h4.2.2.2⟩]
        · rw [if_neg h4, if_neg]
          rintro ⟨g1, g2, g3, g4⟩
          rcases List.mem_cons.mp g3 with g5 | g5
          · exact h.2.2 ⟨g1, by omega⟩
          · exact h4 ⟨g1, g2, g5, g4⟩
theorem nxt_two (P : Nat → Bool) : ∀ k g, 1 ≤ g → nxt P k g ≠ 0 → 2 ≤ nxt P k g := by
  intro k
  induction k with
  | zero => intro g hg h; rw [nxt] at h; omega
  | succ k ih =>
    intro g hg h
    rw [nxt] at h ⊢
    have h1 : 2 ≤ (if 20 ≤ g then 2 else g + 1) := by split <;> omega
    by_cases h2 : P (if 20 ≤ g then 2 else g + 1) = true
    · rw [if_pos h2] at h ⊢; exact ih _ (by omega) h
    · rw [if_neg h2]; exact h1
theorem c_give {h : jh} {w : Nat} {W : ms} {v : vw} (Wf : WFv v) (M : SMv v) (p c o : Nat) (D : List Nat) (hp : p < 16) (hc : c < 16) (hc0 : v 0 c ≠ 1) (ho : o < v 10 0) (hoD : o ∉ D) (W1 : WFv (fkE v p c D)) (hpo : 0 < fre v o (decide (o = v 5 p))) (C : ClsV W (fkE v p c D)) : ∃ W', f_X11_giveNumber w (nI c) (nI o) (pw h w W) = some ((), pw h w W') ∧ ClsV W' (fkE v p c (o :: D)) := by
  have hc8 := Wf.c0
  have hq := Wf.pr p hp
  have e10 : fkE v p c D 10 0 = v 10 0 := fkE_ne _ _ _ _ _ _ (by omega) (by omega) (by omega) (by omega)
  have p1 : W 1 c = nI (v 5 p) := by rw [C.pa c 1 hc (by decide), fkE_c _ _ _ _ _ (by omega)]; rfl
  have gk := Wf.nk o ho
  have i1 : W 13 o = ini (fkE v p c D 51 o) := C.it' W1 o (by omega)
  have i2 : fkE v p c D 51 o = v 51 o := by
    rw [fkE_51, if_neg]; rintro ⟨e1, e2, -⟩; rw [← e1] at e2; exact hoD e2
  rw [i2] at i1
  -- the cells after the number is given
  have b58 : ∀ (W2 : ms) (v2 : vw) (n : Nat), ClsV W2 v2 → WFv v2 → v2 10 0 = v 10 0 → n = fre v o (decide (o = v 5 p)) →
      (∀ a j, ¬ (a = 8 ∧ j = 8 * c + o) ∧ ¬ (a = 50 ∧ j = o) → v2 a j = fkE v p c (o :: D) a j) →
      ∃ W', f_X11_giveNumber_b58 w (nI c) (nI o) (nI n) (pw h w W2) = some ((), pw h w W') ∧ ClsV W' (fkE v p c (o :: D)) := by
    intro W2 v2 n C2 Wf2 h10 hn hv2
    have f8 : fkE v p c (o :: D) 8 (8 * c + o) = n := by rw [fkE_8 _ _ _ _ _ (by omega), if_pos List.mem_cons_self, hn]
    have f50 : fkE v p c (o :: D) 50 o = n := by
      rw [fkE_50]
      by_cases h1 : 1 < fre v o (decide (o = v 5 p))
      · rw [if_pos ⟨List.mem_cons_self, h1⟩, hn]
      · rw [if_neg (fun e => h1 e.2)]
        have hf1 : fre v o (decide (o = v 5 p)) = 1 := by omega
        by_cases h2 : decide (o = v 5 p) = true ∧ v 51 o = 0
        · rw [gk.2.2.2.2 h2.2]; omega
        · have h3 : nxt (tkn v o) 19 (v 50 o) = 1 := by
            have := hf1; unfold fre at this; rw [if_neg h2] at this; exact this
          have := nxt_two (tkn v o) 19 (v 50 o) (by omega) (by omega)
          omega
    have C3 : ClsV (sw W2 6 (upd (W2 6) (8 * c + o) (nI n))) (upv v2 8 (8 * c + o) n) := by
      refine ClsV_nm C2 Wf2.bd c hc (fun f hf => sw_ne _ _ _ _ hf) (fun a j hj => upv_ne _ _ _ _ _ _ (by omega)) ?_ ?_
      · intro j hj; rw [sw_eq, upd_ne' _ _ _ _ (by omega)]
      · intro y hy
        rw [sw_eq]
        by_cases h1 : y = o
        · rw [h1, upd_eq', upv_eq]
        · rw [upd_ne' _ _ _ _ (by omega), upv_ne _ _ _ _ _ _ (by omega), C2.nm c y hc hy]
    have B3 : Bd (upv v2 8 (8 * c + o) n) := Bd_up Wf2.bd 8 _ _ (by omega)
    have C4 : ClsV (sw (sw W2 6 (upd (W2 6) (8 * c + o) (nI n))) 12 (upd (W2 12) o (nI n))) (upv (upv v2 8 (8 * c + o) n) 50 o n) := by
      refine ClsV_gv C3 B3 o (by rw [upv_ne _ _ _ _ _ _ (by omega), h10]; exact ho) (fun f hf => sw_ne _ _ _ _ hf) ?_ ?_ (fun a j h => upv_ne _ _ _ _ _ _ h)
      · intro j hj; rw [sw_eq, upd_ne' _ _ _ _ hj, sw_ne _ _ _ _ (by omega)]
      · rw [sw_eq, upd_eq', upv_eq]
    have ev : upv (upv v2 8 (8 * c + o) n) 50 o n = fkE v p c (o :: D) := by
      funext a j
      by_cases h1 : a = 50 ∧ j = o
      · rw [h1.1, h1.2, upv_eq, f50]
      · rw [upv_ne _ _ _ _ _ _ h1]
        by_cases h2 : a = 8 ∧ j = 8 * c + o
        · rw [h2.1, h2.2, upv_eq, f8]
        · rw [upv_ne _ _ _ _ _ _ h2, hv2 a j ⟨h2, h1⟩]
    rw [ev] at C4
    refine ⟨_, ?_, C4⟩
    unfold f_X11_giveNumber_b58
    simp (discharger := omega) only [↓al_m, ↓al_m2, al_lit, al_add, al_mul, bd_some, bn_0, bn_1, bn_jz, Nat.mul_comm c 8, pw_gR0_0, pw_gR1_6, cw6, pw_gR0_1, pw_gR9_2, cw12, sw_ne]
  have b41 : (¬ (o = v 5 p ∧ v 51 o = 0)) → ∃ W', f_X11_giveNumber_b41 w (nI c) (nI o) (pw h w W) = some ((), pw h w W') ∧ ClsV W' (fkE v p c (o :: D)) := by
    intro hno
    have hfr : fre v o (decide (o = v 5 p)) = nxt (tkn v o) 19 (v 50 o) := by
      unfold fre; rw [if_neg]; rintro ⟨e1, e2⟩; exact hno ⟨of_decide_eq_true e1, e2⟩
    obtain ⟨W', E, C'⟩ := b58 W (fkE v p c D) (fre v o (decide (o = v 5 p))) C W1 e10 rfl (by
      intro a j hj
      by_cases h1 : a = 51 ∧ j = o
      · rw [h1.1, h1.2, i2, fkE_51, if_neg]; rintro ⟨e1, -, e2⟩; exact hno ⟨e1, by rw [e1]; exact e2⟩
      · exact (fkE_cons v p c o D a j (by omega) ⟨hj.1, hj.2, h1⟩).symm)
    refine ⟨W', ?_, C'⟩
    unfold f_X11_giveNumber_b41
    rw [pw_gR0_1, pw_gR0_0, pw_cV1, c_taken C W1 o (by omega), bd_some, pw_cV9, c_next C W1 o (by omega), bd_some, fkE_nxt v p c D hc0 o (by omega) hoD, ← hfr]
    exact E
  unfold f_X11_giveNumber
  simp (discharger := omega) only [↓al_m, ↓al_m2, al_lit, al_add, al_mul, bd_some, bn_0, bn_1, bn_jz, pw_gR0_0, pw_gR1_1, cr1, p1, al_eq, pw_gR0_1, pw_gR9_3, cr13, i1, ini_m1]
  by_cases h1 : o = v 5 p
  · by_cases h2 : v 51 o = 0
    · rw [if_neg (not_not_intro h1), if_neg (not_not_intro h2)]
      rw [cw13 _ _ _ _ _ _ (by omega)]
      have C5 : ClsV (sw W 13 (upd (W 13) o (nI c))) (upv (fkE v p c D) 51 o (c + 2)) := by
        refine ClsV_it C W1.bd o (by rw [e10]; exact ho) (fun f hf => sw_ne _ _ _ _ hf) ?_ ?_ (fun b j h => upv_ne _ _ _ _ _ _ h)
        · intro j hj; rw [sw_eq, upd_ne' _ _ _ _ hj]
        · rw [sw_eq, upd_eq', upv_eq]; unfold ini; rw [if_neg (by omega), if_neg (by omega), Nat.add_sub_cancel]
      have W5 : WFv (upv (fkE v p c D) 51 o (c + 2)) := by
        refine WFv_051 W1 (fun b h0 h1 h2 => by funext j; exact upv_ne _ _ _ _ _ _ (by omega)) ?_ ?_ ?_
        · intro q hq; rw [upv_ne _ _ _ _ _ _ (by omega)]; exact W1.th q hq
        · intro q hq; rw [upv_ne _ _ _ _ _ _ (by omega)]; exact (W1.pr q hq).1
        · intro x hx
          have g := W1.nk x hx
          by_cases h3 : x = o
          · rw [h3, upv_eq]; exact ⟨by omega, fun h => by omega⟩
          · rw [upv_ne _ _ _ _ _ _ (by omega)]; exact ⟨g.2.2.2.1, g.2.2.2.2⟩
      have hf1 : fre v o (decide (o = v 5 p)) = 1 := by unfold fre; rw [if_pos ⟨by simp [h1], h2⟩]
      exact b58 _ _ 1 C5 W5 (by rw [upv_ne _ _ _ _ _ _ (by omega)]; exact e10) hf1.symm (by
        intro a j hj
        by_cases h3 : a = 51 ∧ j = o
        · rw [h3.1, h3.2, upv_eq, fkE_51, if_pos ⟨h1, by rw [← h1]; exact List.mem_cons_self, by rw [← h1]; exact h2⟩]
        · rw [upv_ne _ _ _ _ _ _ h3]
          exact (fkE_cons v p c o D a j (by omega) ⟨hj.1, hj.2, h3⟩).symm)
    · rw [if_neg (not_not_intro h1), if_pos h2]
      exact b41 (fun e => h2 e.2)
  · rw [if_pos h1]
    exact b41 (fun e => h1 e.1)
theorem c_bear_l {h : jh} {w : Nat} {v : vw} (Wf : WFv v) (M : SMv v) (p c : Nat) (hp : p < 16) (hc : c < 16) (hc0 : v 0 c ≠ 1) (hC : fkC v (v 5 p) (ch v 0 (v 5 p)) = true) (L : Nat → Nat → Int32 → Int32 → Int32 → jh → Option (Int32 × jh)) (hL : ∀ f, L (f + 1) = f_X11_bear_h59 (fun y25 h24 => some (y25, h24)) (L f)) : ∀ o, o < v 10 0 → ∀ (D : List Nat) W i f, i + o + 1 ≤ 8 → o + 2 ≤ f → (∀ y, y ∈ D → o < y ∧ y < v 10 0) → (∀ y, y ∈ ch v 0 (v 5 p) ↔ y ∈ D ∨ y ∈ ch v 0 o) → ClsV W (fkE v p c D) → ∃ W', L f w (nI c) (nI o) (nI i) (pw h w W) = some (nI c, pw h w W') ∧ ClsV W' (fkE v p c (ch v 0 (v 5 p))) := by
  have h8 := Wf.c0
  have hq := Wf.pr p hp
  intro o
  induction o using Nat.strongRecOn with
  | ind o ih =>
    intro ho D W i f hi hf hD hDc C
    obtain ⟨f, rfl⟩ : ∃ g, f = g + 1 + 1 := ⟨f - 2, by omega⟩
    have hoD : o ∉ D := fun e => by have := hD o e; omega
    have hbg := ch_beg Wf M (v 5 p) hq.2.2.2.2.1
    have W1 : WFv (fkE v p c D) := WFv_fkE Wf p c D hp hc (fun y hy => (hD y hy).2) (fun y hy => hbg y ((hDc y).mpr (Or.inl hy)))
    have hoc : o ∈ ch v 0 (v 5 p) := (hDc o).mpr (Or.inr (ch_self _ _ _))
    have hpo : 0 < fre v o (decide (o = v 5 p)) := by
      unfold fkC at hC
      exact of_decide_eq_true (List.all_eq_true.mp hC o hoc)
    obtain ⟨W2, E2, C2⟩ := c_give (h := h) (w := w) Wf M p c o D hp hc hc0 ho hoD W1 hpo C
    have W2f : WFv (fkE v p c (o :: D)) := WFv_fkE Wf p c _ hp hc (fun y hy => by
      rcases List.mem_cons.mp hy with e | e
      · rw [e]; exact ho
      · exact (hD y e).2) (fun y hy => by
      rcases List.mem_cons.mp hy with e | e
      · rw [e]; exact hbg o hoc
      · exact hbg y ((hDc y).mpr (Or.inl e)))
    have e10 : fkE v p c (o :: D) 10 0 = v 10 0 := fkE_ne _ _ _ _ _ _ (by omega) (by omega) (by omega) (by omega)
    have e20 : fkE v p c (o :: D) 20 o = v 20 o := fkE_ne _ _ _ _ _ _ (by omega) (by omega) (by omega) (by omega)
    have ta := c_around0 (h := h) (w := w) C2 W2f o (by omega)
    rw [e20] at ta
    have step : L (f + 1 + 1) w (nI c) (nI o) (nI i) (pw h w W) = L (f + 1) w (nI c) (if o = 0 then nm1 else nI (v 20 o)) (nI (i + 1)) (pw h w W2) := by
      rw [hL]
      unfold f_X11_bear_h59
      simp (discharger := omega) only [↓al_m, ↓al_m2, al_lit, al_add, al_mul, bd_some, bn_0, bn_1, bn_jz, al_le, nm1_ne, if_false, pw_cV0, E2, pw_gR0_1, pw_gR9_0, pw_cV10, ta]
      rw [if_neg (by omega)]
    rw [step]
    by_cases h0 : o = 0
    · subst h0
      refine ⟨W2, ?_, ?_⟩
      · rw [if_pos rfl, hL]
        unfold f_X11_bear_h59
        simp only [↓al_m, ↓al_m2, al_lit, al_add, al_mul, bd_some, bn_0, bn_1, bn_jz, if_true, ite_self]
      · have : fkE v p c (0 :: D) = fkE v p c (ch v 0 (v 5 p)) := by
          have hm : ∀ y, y ∈ 0 :: D ↔ y ∈ ch v 0 (v 5 p) := by
            intro y
            rw [hDc y, ch_0]
            simp [or_comm]
          funext a j
          unfold fkE
          simp only [hm]
        rw [← this]; exact C2
    · have hu := Wf.up0 o (by omega) ho
      rw [if_neg h0]
      refine ih _ hu (by omega) (o :: D) W2 (i + 1) (f + 1) (by omega) (by omega) ?_ ?_ C2
      · intro y hy
        rcases List.mem_cons.mp hy with e | e
        · rw [e]; exact ⟨hu, ho⟩
        · have := hD y e; exact ⟨by omega, this.2⟩
      · intro y
        rw [hDc y, ch_s0 Wf (by omega) ho]
        simp only [List.mem_cons]
        constructor
        · rintro (e | e | e)
          · exact Or.inl (Or.inr e)
          · exact Or.inl (Or.inl e)
          · exact Or.inr e
        · rintro ((e | e) | e)
          · exact Or.inr (Or.inl e)
          · exact Or.inl e
          · exact Or.inr (Or.inr e)
theorem c_free_l {h : jh} {w : Nat} {W : ms} {v : vw} (C : ClsV W v) (Wf : WFv v) (x : Nat) (hx0 : x < v 10 0) (L : Nat → Nat → Int32 → Int32 → jh → Option (Int32 × jh)) (hL : ∀ f, L (f + 1) = f_X11_hasNumbersFree_h4 (fun h20 => some (1, h20)) (L f)) : ∀ o, o < v 10 0 → ∀ i f, i + o + 1 ≤ 8 → o + 2 ≤ f → (i = 0 ↔ o = x) → (i ≠ 0 → ∀ y, y ∈ ch v 0 o → y ≠ x) → L f w (nI o) (nI i) (pw h w W) = some (bn (fkC v x (ch v 0 o)), pw h w W) := by
  have hc := Wf.c0
  intro o
  induction o using Nat.strongRecOn with
  | ind o ih =>
    intro ho i f hi hf hix hne
    obtain ⟨f, rfl⟩ : ∃ g, f = g + 1 + 1 := ⟨f - 2, by omega⟩
    have gk := Wf.nk o ho
    have gn := nxt_le (tkn v o) 19 (v 50 o) (by omega)
    have b65 : f_X11_hasNumbersFree_b65 (L (f + 1)) (fun h20 => some (1, h20)) w (nI o) (nI i) (pw h w W) = some (bn (if o = 0 then true else fkC v x (ch v 0 (v 20 o))), pw h w W) := by
      unfold f_X11_hasNumbersFree_b65
      simp (discharger := omega) only [↓al_m, ↓al_m2, al_lit, al_add, al_mul, bd_some, bn_0, bn_1, bn_jz, pw_gR0_1, pw_gR9_0, pw_cV10, c_around0 C Wf]
      by_cases h0 : o = 0
      · rw [if_pos h0, if_pos h0, hL]
        unfold f_X11_hasNumbersFree_h4
        simp only [↓al_m, ↓al_m2, al_lit, al_add, al_mul, bd_some, bn_0, bn_1, bn_jz, if_true, ite_self]
        rfl
      · have hu := Wf.up0 o (by omega) ho
        rw [if_neg h0, if_neg h0]
        refine ih _ hu (by omega) (i + 1) (f + 1) (by omega) (by omega) ⟨fun e => by omega, fun e => ?_⟩ (fun _ y hy e => ?_)
        · exfalso
          by_cases h1 : i = 0
          · have := hix.mp h1; omega
          · exact hne h1 (v 20 o) (by rw [ch_s0 Wf (by omega) ho]; exact List.mem_cons_of_mem _ (ch_self _ _ _)) e
        · by_cases h1 : i = 0
          · have h2 := hix.mp h1
            have h3 := ch_lt Wf (by decide) (v 20 o) (by show v 20 o < v 10 0; omega) hy
            omega
          · exact hne h1 y (by rw [ch_s0 Wf (by omega) ho]; exact List.mem_cons_of_mem _ hy) e
    have hall : fkC v x (ch v 0 o) = (decide (0 < fre v o (decide (o = x))) && (if o = 0 then true else fkC v x (ch v 0 (v 20 o)))) := by
      by_cases h0 : o = 0
      · subst h0; rw [ch_0]; simp [fkC]
      · rw [ch_s0 Wf (by omega) ho, if_neg h0]; simp [fkC]
    have b37 : ∀ b : Bool, (b = true → o = x ∧ v 51 o = 0) → (b = false → ¬ (o = x ∧ v 51 o = 0)) → f_X11_hasNumbersFree_b37 (L (f + 1)) (fun h20 => some (1, h20)) w (nI o) (nI i) (bn b) (pw h w W) = some (bn (fkC v x (ch v 0 o)), pw h w W) := by
      intro b h1 h2
      unfold f_X11_hasNumbersFree_b37
      cases b
      · have hno := h2 rfl
        have hfr : fre v o (decide (o = x)) = nxt (tkn v o) 19 (v 50 o) := by
          unfold fre; rw [if_neg]; rintro ⟨e1, e2⟩; exact hno ⟨of_decide_eq_true e1, e2⟩
        rw [if_neg (by decide), pw_gR0_1, pw_gR0_0, pw_cV1, c_taken C Wf o (by omega), bd_some, pw_cV9, c_next C Wf o ho, bd_some, b65, hall, hfr]
        by_cases h3 : nxt (tkn v o) 19 (v 50 o) = 0
        · rw [h3, if_neg (by simp [al_0])]; rfl
        · rw [if_pos (show ¬ nI (nxt (tkn v o) 19 (v 50 o)) = (0 : Int32) from mt (iff_of_eq (al_eq (b := 0) (by omega) (by omega))).mp h3), decide_eq_true (show 0 < nxt (tkn v o) 19 (v 50 o) by omega), Bool.true_and]
      · have hy := h1 rfl
        have hfr : fre v o (decide (o = x)) = 1 := by unfold fre; rw [if_pos ⟨by simp [hy.1], hy.2⟩]
        rw [if_pos (by decide), b65, hall, hfr]
        rfl
    rw [hL]
    unfold f_X11_hasNumbersFree_h4
    have k1 : ∀ K : Option (Int32 × jh), (if (8 : Int32) ≤ nI i then K else if nI o = (-1 : Int32) then K else if ¬ nI i = (0 : Int32) then f_X11_hasNumbersFree_b37 (L (f + 1)) (fun h20 => some (1, h20)) w (nI o) (nI i) 0 (pw h w W) else gR (pw h w W) w 9 1 fun v16 => gR (pw h w W) v16 2 3 fun v17 => aI (pw h w W) v17 (nI o) fun v18 => if ¬ v18 = (-1 : Int32) then f_X11_hasNumbersFree_b37 (L (f + 1)) (fun h20 => some (1, h20)) w (nI o) (nI i) 0 (pw h w W) else f_X11_hasNumbersFree_b37 (L (f + 1)) (fun h20 => some (1, h20)) w (nI o) (nI i) 1 (pw h w W)) = some (bn (fkC v x (ch v 0 o)), pw h w W) := by
      intro K
      simp (discharger := omega) only [↓al_m, ↓al_m2, al_lit, al_add, al_mul, bd_some, bn_0, bn_1, bn_jz, al_le, al_eq, nm1_ne, if_false, pw_gR0_1, pw_gR9_3, cr13, C.it' Wf, ini_m1]
      rw [if_neg (by omega)]
      by_cases h1 : i = 0
      · rw [if_neg (not_not_intro h1)]
        by_cases h2 : v 51 o = 0
        · rw [if_neg (not_not_intro h2)]
          exact b37 true (fun _ => ⟨hix.mp h1, h2⟩) (fun e => by cases e)
        · rw [if_pos h2]
          exact b37 false (fun e => by cases e) (fun _ e => h2 e.2)
      · rw [if_pos h1]
        exact b37 false (fun e => by cases e) (fun _ e => h1 (hix.mpr e.1))
    exact k1 _
theorem c_fork {h : jh} {w : Nat} {W : ms} {v : vw} (C : ClsV W v) (Wf : WFv v) (M : SMv v) (p : Nat) (hp : p < 16) (hp1 : v 0 p = 1) : CD h w (f_X11_bear w (nI p) (pw h w W)) (dFrk v p) := by
  have hc8 := Wf.c0
  have hq := Wf.pr p hp
  have hx : v 5 p < v 10 0 := hq.2.2.2.2.1
  have e4 : W 4 p = nI (v 5 p) := C.pa p 4 hp (by decide)
  have hcl := (ff_le (fun q => decide (v 0 q ≠ 1)) 16 0).2
  have hcl' : fkc v ≤ 16 := by unfold fkc; omega
  obtain ⟨f, hf⟩ := jfu_s
  unfold f_X11_bear dFrk
  rw [pw_gR0_0, pw_cV1, c_least C, bd_some, pw_gR0_0, pw_gR1_4, cr4 _ _ _ _ _ hp, e4]
  by_cases h16 : fkc v < 16
  · have hon : on 16 (fkc v) = nI (fkc v) := by unfold on; rw [if_neg (by omega)]
    rw [hon, if_neg (show ¬ nI (fkc v) = (-1 : Int32) by rw [al_ne1 (by omega)]; exact id), pw_gR0_1, pw_cV9, c_isDead C Wf _ hx, bd_some]
    by_cases hd : v 51 (v 5 p) = 1
    · rw [decide_eq_true hd, if_pos (by decide), if_neg (fun e => e.2.1 hd)]
      exact CD_no C
    · rw [decide_eq_false hd, if_neg (by decide), pw_cV0]
      have tf : f_X11_hasNumbersFree w (nI (v 5 p)) (pw h w W) = some (bn (fkC v (v 5 p) (ch v 0 (v 5 p))), pw h w W) :=
        c_free_l C Wf (v 5 p) hx _ (fun _ => rfl) (v 5 p) hx 0 jfu (by omega) (by omega) ⟨fun _ => rfl, fun _ => rfl⟩ (fun e => absurd rfl e)
      rw [tf, bd_some]
      cases hC : fkC v (v 5 p) (ch v 0 (v 5 p))
      · rw [if_neg (by decide), if_neg (by simp)]
        exact CD_no C
      · rw [if_pos (by decide), if_pos ⟨h16, hd, rfl⟩, pw_gR0_0, pw_cV1]
        have hc0 : v 0 (fkc v) ≠ 1 := by
          have := ff_P (fun q => decide (v 0 q ≠ 1)) 16 0 (by have := h16; unfold fkc at this; omega)
          exact of_decide_eq_true this
        obtain ⟨W1, E1, C1⟩ := c_padd (h := h) (w := w) C Wf p (fkc v) hp hp1 h16 hc0
        rw [E1, bd_some]
        obtain ⟨W2, E2, C2⟩ := c_bear_l (h := h) (w := w) Wf M p (fkc v) hp h16 hc0 hC (jlp4 (f_X11_bear_h59 (fun y25 h24 => some (y25, h24)))) (fun _ => rfl) (v 5 p) hx [] W1 0 jfu (by omega) (by omega) (fun y hy => by simp at hy) (fun y => by simp) C1
        rw [fkE_frk] at C2
        exact ⟨W2, E2, C2⟩
  · have hon : on 16 (fkc v) = nm1 := by unfold on; rw [if_pos (by omega)]
    rw [hon, if_pos (show nm1 = (-1 : Int32) from rfl), if_neg (fun e => h16 e.1)]
    exact CD_no C
theorem CD_bd {h : jh} {w : Nat} {o : Option (Int32 × jh)} {d : Int32 × vw} (H : CD h w o d) : CD h w (bd o fun a b => some (a, b)) d := by
  obtain ⟨s', e, h2⟩ := H
  exact ⟨s', by rw [e, bd_some], h2⟩
theorem eO_e {β : Type} {e : Nat} (he : e < 11) (K : Int32 → Option β) : eO e K = K (Int32.ofNat e) := if_pos he
theorem mI_e {β : Type} {e : Nat} (he : e < 11) (K : Int32 → Option β) : mI (Int32.ofNat e) K = K (Int32.ofNat (e + 1)) := by
  unfold mI
  have hi : ¬ (Int32.ofNat e < 0 ∨ 11 ≤ (Int32.ofNat e).toNatClampNeg) := al_in he (by decide)
  rw [if_neg hi, show (Int32.ofNat e).toNatClampNeg = e from al_cl (by omega)]
theorem c_attempt {h : jh} {w : Nat} {W : ms} {v : vw} (C : ClsV W v) (Wf : WFv v) (M : SMv v) (e : Nat) (p a b c d : Int32) (he : e < 11) : CD h w (f_X11_attempt w e p a b c d (pw h w W)) (dDo v e p a b c d) := by
  unfold f_X11_attempt dDo
  rw [pw_gR0_0, pw_cV1]
  rcases i_cases p 16 (by decide) with ⟨q, hq, rfl⟩ | hout
  · rw [cl_in hq (by decide), c_has C q hq, bd_some]
    by_cases hq1 : v 0 q = 1
    · rw [decide_eq_true hq1, if_pos (show ¬ bn true = 0 by decide), if_pos (show q < 16 ∧ v 0 q = 1 from ⟨hq, hq1⟩), eO_e he, mI_e he]
      have kn : ∀ j, j < 12 → 1 ≤ j → ((Int32.ofNat (e + 1) = (OfNat.ofNat j : Int32)) ↔ e = j - 1) := fun j hj h1 => (iff_of_eq (al_eq (a := e + 1) (b := j) (by omega) (by omega))).trans ⟨fun h => by omega, fun h => by omega⟩
      simp only [pw_cV0]
      by_cases w0 : e = 0
      · rw [if_pos ((kn 1 (by decide) (by decide)).mpr w0), if_pos w0]; exact CD_bd (c_fork C Wf M q hq hq1)
      rw [if_neg (mt (kn 1 (by decide) (by decide)).mp w0), if_neg w0]
      by_cases w1 : e = 1
      · rw [if_pos ((kn 2 (by decide) (by decide)).mpr w1), if_pos w1]; exact CD_bd (c_createU C Wf q hq hq1)
      rw [if_neg (mt (kn 2 (by decide) (by decide)).mp w1), if_neg w1]
      by_cases w2 : e = 2
      · rw [if_pos ((kn 3 (by decide) (by decide)).mpr w2), if_pos w2]; exact CD_bd (c_createN C Wf q hq hq1)
      rw [if_neg (mt (kn 3 (by decide) (by decide)).mp w2), if_neg w2]
      by_cases w3 : e = 3
      · rw [if_pos ((kn 4 (by decide) (by decide)).mpr w3), if_pos w3]; exact CD_bd (c_createM C Wf q hq hq1)
      rw [if_neg (mt (kn 4 (by decide) (by decide)).mp w3), if_neg w3]
      by_cases w4 : e = 4
      · rw [if_pos ((kn 5 (by decide) (by decide)).mpr w4), if_pos w4]
        have bad : ((a < 0 ∨ nI 8 ≤ a) ∨ (b < 0 ∨ nI 100 ≤ b) ∨ (c < 0 ∨ nI 100 ≤ c) ∨ (d < 0 ∨ nI 100 ≤ d)) → CD h w (bd (f_X11_addRange w (nI q) a b c d (pw h w W)) fun a b => some (a, b)) (dMap v q (cl a 8) (cl b 100) (cl c 100) (cl d 100)) := by
          intro hx
          have e0 : dMap v q (cl a 8) (cl b 100) (cl c 100) (cl d 100) = (nm1, v) := by
            unfold dMap
            rw [if_neg]
            rintro ⟨g1, g2, g3, g4, -⟩
            rcases hx with hx | hx | hx | hx
            · rw [cl_out hx] at g4; omega
            · rw [cl_out hx] at g1; omega
            · rw [cl_out hx] at g2; omega
            · rw [cl_out hx] at g3; omega
          rw [e0]; exact CD_bd (c_map' C Wf q a b c d hx)
        rcases i_cases a 8 (by decide) with ⟨x, hx, ea⟩ | ho
        · rcases i_cases b 100 (by decide) with ⟨i, hi1, eb⟩ | ho
          · rcases i_cases c 100 (by decide) with ⟨o, ho1, ec⟩ | ho
            · rcases i_cases d 100 (by decide) with ⟨n, hn1, ed⟩ | ho
              · rw [ea, eb, ec, ed, cl_in hx (by decide), cl_in hi1 (by decide), cl_in ho1 (by decide), cl_in hn1 (by decide)]
                exact CD_bd (c_map C Wf q x i o n hq hq1 hx hi1 ho1 hn1)
              · exact bad (Or.inr (Or.inr (Or.inr ho)))
            · exact bad (Or.inr (Or.inr (Or.inl ho)))
          · exact bad (Or.inr (Or.inl ho))
        · exact bad (Or.inl ho)
      rw [if_neg (mt (kn 5 (by decide) (by decide)).mp w4), if_neg w4]
      by_cases w5 : e = 5
      · rw [if_pos ((kn 6 (by decide) (by decide)).mpr w5), if_pos w5]
        rcases i_cases a 100 (by decide) with ⟨x, hx, rfl⟩ | ho
        · rw [cl_in hx (by decide)]; exact CD_bd (c_become C Wf q x hq hq1 hx)
        · rw [cl_out ho]
          have e0 : dBec v q 100 = (nm1, v) := by unfold dBec; rw [if_neg (by omega)]
          rw [e0]; exact CD_bd (c_become' C Wf q a hq ho)
      rw [if_neg (mt (kn 6 (by decide) (by decide)).mp w5), if_neg w5]
      by_cases w6 : e = 6
      · rw [if_pos ((kn 7 (by decide) (by decide)).mpr w6), if_pos w6]
        rcases i_cases a 8 (by decide) with ⟨x, hx, rfl⟩ | ho
        · rcases i_cases b 100 (by decide) with ⟨y, hy, rfl⟩ | ho
          · rw [cl_in hx (by decide), cl_in hy (by decide)]; exact CD_bd (c_mount C Wf q x y hq hq1 hx hy)
          · rw [cl_out ho]
            have e0 : dMnt v q (cl (nI x) 8) 100 = (nm1, v) := by unfold dMnt; rw [if_neg (by omega)]
            rw [e0]; exact CD_bd (c_mount' C Wf q _ b hq (Or.inr ho))
        · rw [cl_out ho]
          have e0 : dMnt v q 8 (cl b 100) = (nm1, v) := by unfold dMnt; rw [if_neg (by omega)]
          rw [e0]; exact CD_bd (c_mount' C Wf q a b hq (Or.inl ho))
      rw [if_neg (mt (kn 7 (by decide) (by decide)).mp w6), if_neg w6]
      by_cases w7 : e = 7
      · rw [if_pos ((kn 8 (by decide) (by decide)).mpr w7), if_pos w7]
        rcases i_cases a 16 (by decide) with ⟨x, hx, rfl⟩ | ho
        · rcases i_cases b 3 (by decide) with ⟨y, hy, rfl⟩ | ho
          · rw [cl_in hx (by decide), cl_in hy (by decide)]; exact CD_bd (c_enter C Wf M q x y hq hq1 hx hy)
          · rw [cl_out ho]
            have e0 : dEnt v q (cl (nI x) 16) 3 = (nm1, v) := by unfold dEnt; rw [if_neg (by omega)]
            rw [e0]; exact CD_bd (c_enter' C Wf q _ b hq (Or.inr ho))
        · rw [cl_out ho]
          have e0 : dEnt v q 16 (cl b 3) = (nm1, v) := by unfold dEnt; rw [if_neg (by omega)]
          rw [e0]; exact CD_bd (c_enter' C Wf q a b hq (Or.inl ho))
      rw [if_neg (mt (kn 8 (by decide) (by decide)).mp w7), if_neg w7]
      by_cases w8 : e = 8
      · rw [if_pos ((kn 9 (by decide) (by decide)).mpr w8), if_pos w8]
        by_cases h0 : q = 0
        · subst h0
          rw [if_pos rfl]; exact CD_bd (c_finish0 C Wf)
        · rw [if_neg h0]; exact CD_bd (c_finish C Wf M q hq hq1 h0)
      rw [if_neg (mt (kn 9 (by decide) (by decide)).mp w8), if_neg w8]
      by_cases w9 : e = 9
      · rw [if_pos ((kn 10 (by decide) (by decide)).mpr w9), if_pos w9]
        rcases i_cases a 16 (by decide) with ⟨x, hx, rfl⟩ | ho
        · rw [cl_in hx (by decide), c_canKill C Wf q x hq hq1 hx, bd_some]
          by_cases hk : x < 16 ∧ v 0 x = 1 ∧ cnkV v q x = true
          · have hx0 : x ≠ 0 := by
              intro e0
              have := hk.2.2
              unfold cnkV at this
              simp [e0] at this
            rw [if_pos hk, if_neg (by rw [decide_eq_true hk.2.1, hk.2.2]; decide)]
            rw [pw_cV0]
            exact CD_bd (c_finish C Wf M x hx hk.2.1 hx0)
          · have : (decide (v 0 x = 1) && cnkV v q x) = false := by
              cases h1 : (decide (v 0 x = 1) && cnkV v q x)
              · rfl
              · rw [Bool.and_eq_true] at h1
                exact absurd ⟨hx, of_decide_eq_true h1.1, h1.2⟩ hk
            rw [this, if_neg hk, if_pos (by decide)]
            exact CD_no C
        · rw [cl_out ho, c_canKill' _ a ho, bd_some, if_pos (by decide), if_neg (by omega)]
          exact CD_no C
      rw [if_neg (mt (kn 10 (by decide) (by decide)).mp w9), if_neg w9, if_pos ((kn 11 (by decide) (by decide)).mpr (by omega))]
      exact CD_bd (c_share C Wf q hq hq1)
    · rw [decide_eq_false hq1, if_neg (show ¬ ¬ bn false = 0 by decide), if_neg (fun e => hq1 e.2)]
      exact CD_no C
  · rw [cl_out hout, c_has' _ hout, bd_some, if_neg (show ¬ ¬ bn false = 0 by decide), if_neg (by omega)]
    exact CD_no C
