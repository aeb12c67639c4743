/-! the class's deeds: mount, map, kill, end -/
theorem c_spr_l {h : jh} {w : Nat} {W : ms} {v : vw} (C : ClsV W v) (Wf : WFv v) (L : Nat → Nat → Int32 → Int32 → jh → Option (Int32 × jh)) (hL : ∀ f, L (f + 1) = f_X2_spread_h8 (fun y15 h14 => some (y15, h14)) (L f)) : ∀ k i a f, i + k = v 12 0 → 1 ≤ i → k + 1 ≤ f → L f (w + 23) a (nI i) (pw h w W) = some (spr v k i a, pw h w W) := by
  have hc := Wf.c2
  intro k
  induction k with
  | zero =>
    intro i a f hi h1 hf
    obtain ⟨f, rfl⟩ : ∃ g, f = g + 1 := ⟨f - 1, by omega⟩
    rw [hL]
    unfold f_X2_spread_h8
    simp (discharger := omega) only [↓al_m, ↓al_m2, al_lit, al_add, al_mul, bd_some, bn_0, bn_1, bn_jz, pw_gR23_0, pw_gI24_1, C.c2, al_le]
    rw [if_pos (by omega), spr]
  | succ k ih =>
    intro i a f hi h1 hf
    obtain ⟨f, rfl⟩ : ∃ g, f = g + 1 := ⟨f - 1, by omega⟩
    have hu := Wf.up2 i h1 (by omega)
    have h0 : ¬ i = 0 := by omega
    rw [hL]
    unfold f_X2_spread_h8
    simp (discharger := omega) only [↓al_m, ↓al_m2, al_lit, al_add, al_mul, bd_some, bn_0, bn_1, bn_jz, pw_gR23_0, pw_gI24_1, C.c2, al_le, pw_cV24, c_around2 C Wf, h0, if_false, nm1_ne, c_holds, pw_cV23, c_isShared C Wf, bI_eq]
    rw [if_neg (by omega), spr, ih _ _ f (by omega) (by omega) (by omega), ih _ _ f (by omega) (by omega) (by omega)]
    unfold sprP
    by_cases h3 : hb a (v 22 i) = true <;> by_cases h4 : v 70 (v 22 i) = 1 <;> simp [h3, h4]
theorem c_spread {h : jh} {w : Nat} {W : ms} {v : vw} (C : ClsV W v) (Wf : WFv v) (x : Nat) (hx : x < v 12 0) : f_X2_spread (w + 23) (nI x) (pw h w W) = some (sprd v x, pw h w W) := by
  have hc := Wf.c2
  obtain ⟨f, hf⟩ := jfu_s
  unfold f_X2_spread
  rw [show nI x + 1 = nI (x + 1) from al_add x 1]
  exact c_spr_l C Wf (jlp3 (f_X2_spread_h8 (fun y15 h14 => some (y15, h14)))) (fun _ => rfl) (v 12 0 - (x + 1)) (x + 1) (bI x) jfu (by omega) (by omega) (by omega)
theorem c_put_l {h : jh} {w : Nat} {W : ms} (i x : Nat) (a : Int32) (hi : i < 8) (L : Nat → Nat → Int32 → Int32 → Int32 → Int32 → jh → Option (Unit × jh)) (hL : ∀ f, L (f + 1) = f_X2_put_h10 (fun  h9 => some ((), h9)) (L f)) : ∀ k y n f, y + k = 8 → k + 1 ≤ f → ∃ n', L f (w + 23) (nI i) (nI x) a (nI y) (pw h w (sw W 24 n)) = some ((), pw h w (sw W 24 n')) ∧ ∀ j, n' j = if y ≤ j / 8 ∧ j / 8 < 8 ∧ j % 8 = i ∧ hb a (j / 8) = true then nI x else n j := by
  intro k
  induction k with
  | zero =>
    intro y n f hy hf
    obtain ⟨f, rfl⟩ : ∃ g, f = g + 1 := ⟨f - 1, by omega⟩
    refine ⟨n, ?_, fun j => by rw [if_neg (by omega)]⟩
    rw [hL]
    unfold f_X2_put_h10
    simp (discharger := omega) only [↓al_m, ↓al_m2, al_lit, al_add, al_mul, bd_some, bn_0, bn_1, bn_jz, al_le]
    rw [if_pos (by omega)]
  | succ k ih =>
    intro y n f hy hf
    obtain ⟨f, rfl⟩ : ∃ g, f = g + 1 := ⟨f - 1, by omega⟩
    by_cases hb1 : hb a y = true
    · obtain ⟨n', e, T⟩ := ih (y + 1) (upd n (8 * y + i) (nI x)) f (by omega) (by omega)
      refine ⟨n', ?_, ?_⟩
      · rw [hL]
        unfold f_X2_put_h10
        simp (discharger := omega) only [↓al_m, ↓al_m2, al_lit, al_add, al_mul, bd_some, bn_0, bn_1, bn_jz, al_le, c_holds, pw_gR23_2, cw24, sw_eq, sw_sw, Nat.mul_comm y 8]
        rw [if_neg (by omega), if_neg (by simp [hb1])]
        exact e
      · intro j
        rw [T j]
        unfold upd
        by_cases h1 : y + 1 ≤ j / 8 ∧ j / 8 < 8 ∧ j % 8 = i ∧ hb a (j / 8) = true
        · rw [if_pos h1, if_pos ⟨by omega, h1.2⟩]
        · rw [if_neg h1]
          by_cases h2 : j = 8 * y + i
          · have h3 : j / 8 = y := by omega
            rw [if_pos h2, if_pos ⟨by omega, by omega, by omega, by rw [h3]; exact hb1⟩]
          · rw [if_neg h2, if_neg]
            rintro ⟨d1, d2, d3, d4⟩
            by_cases d5 : j / 8 = y
            · exact h2 (by omega)
            · exact h1 ⟨by omega, d2, d3, d4⟩
    · obtain ⟨n', e, T⟩ := ih (y + 1) n f (by omega) (by omega)
      refine ⟨n', ?_, ?_⟩
      · rw [hL]
        unfold f_X2_put_h10
        simp (discharger := omega) only [↓al_m, ↓al_m2, al_lit, al_add, al_mul, bd_some, bn_0, bn_1, bn_jz, al_le, c_holds]
        rw [if_neg (by omega), if_pos (by simpa using hb1)]
        exact e
      · intro j
        rw [T j]
        by_cases h1 : y + 1 ≤ j / 8 ∧ j / 8 < 8 ∧ j % 8 = i ∧ hb a (j / 8) = true
        · rw [if_pos h1, if_pos ⟨by omega, h1.2⟩]
        · rw [if_neg h1, if_neg]
          rintro ⟨d1, d2, d3, d4⟩
          by_cases d5 : j / 8 = y
          · rw [d5] at d4; exact hb1 d4
          · exact h1 ⟨by omega, d2, d3, d4⟩
theorem c_mount {h : jh} {w : Nat} {W : ms} {v : vw} (C : ClsV W v) (Wf : WFv v) (p i x : Nat) (hp : p < 16) (hp1 : v 0 p = 1) (hi : i < 8) (hx : x < 100) : CD h w (f_X11_putThing w (nI p) (nI i) (nI x) (pw h w W)) (dMnt v p i x) := by
  have hc := Wf.c2
  have hq := Wf.pr p hp
  have hm := Wf.mk (v 4 p) (by omega)
  have ht := Wf.tg (v 4 p) i (by omega) hi
  have e3 : W 3 p = nI (v 4 p) := C.pa p 3 hp (by decide)
  obtain ⟨f, hf⟩ := jfu_s
  obtain ⟨n', en, T⟩ := c_put_l (h := h) (w := w) (W := W) i x (sprd v (v 4 p)) hi (jlp5 (f_X2_put_h10 (fun  h9 => some ((), h9)))) (fun _ => rfl) 8 0 (W 24) jfu (by omega) (by omega)
  rw [sw_id] at en
  have ep : f_X2_put (w + 23) (nI (v 4 p)) (nI i) (nI x) (pw h w W) = some ((), pw h w (sw W 24 n')) := by
    unfold f_X2_put
    rw [pw_cV23, c_spread C Wf _ (by omega), bd_some]
    exact en
  unfold f_X11_putThing dMnt
  simp (discharger := omega) only [↓al_m, ↓al_m2, al_lit, al_add, al_mul, bd_some, bn_0, bn_1, bn_jz, al_lt, al_le, al_eq, pw_gR0_0, pw_gR1_3, cr3, e3, pw_gR0_3, pw_gR23_1, pw_gR23_2, cr23, cr24, C.mk, pw_cV0, c_rules C Wf, Nat.mul_comm (v 4 p) 8, C.tg, pw_cV23, ep]
  rw [if_neg (by omega), if_neg (by omega), if_neg (by omega), if_neg (by omega)]
  cases ovp v p (v 42 (v 4 p))
  · simp; exact CD_no C
  · by_cases h4 : v 71 (8 * v 4 p + i) = x
    · simp [h4]; exact CD_no C
    · simp only [hi, hx, h4, true_and, ne_eq, not_false_eq_true, if_true, Bool.true_eq_false]
      refine ⟨_, rfl, ?_⟩
      refine ClsV_tg C Wf.bd (fun f hf => sw_ne _ _ _ _ hf) (fun a j ha => by show putv _ _ _ _ _ a j = _; unfold putv; rw [if_neg (by omega)]) ?_
      intro s i' hs hi'
      rw [sw_eq, T]
      show _ = nI (putv v (sprd v (v 4 p)) i x (v 12 0) 71 (8 * s + i'))
      unfold putv
      have d1 : (8 * s + i') / 8 = s := by omega
      have d2 : (8 * s + i') % 8 = i' := by omega
      rw [d1, d2]
      by_cases h5 : i' = i ∧ hb (sprd v (v 4 p)) s = true
      · rw [if_pos ⟨by omega, by omega, h5⟩, if_pos ⟨rfl, h5.1, hs, h5.2⟩]
      · rw [if_neg (fun e => h5 e.2.2), if_neg (fun e => h5 ⟨e.2.1, e.2.2.2⟩), C.tg s i' hs hi']
theorem c_mount' {h : jh} {w : Nat} {W : ms} {v : vw} (C : ClsV W v) (Wf : WFv v) (p : Nat) (x y : Int32) (hp : p < 16) (hxy : (x < 0 ∨ nI 8 ≤ x) ∨ (y < 0 ∨ nI 100 ≤ y)) : CD h w (f_X11_putThing w (nI p) x y (pw h w W)) (nm1, v) := by
  unfold f_X11_putThing
  rw [pw_gR0_0, pw_gR1_3, cr3 _ _ _ _ _ hp]
  by_cases h1 : x < 0
  · rw [if_pos h1]; exact CD_no C
  rw [if_neg h1]
  by_cases h2 : (8 : Int32) ≤ x
  · rw [if_pos h2]; exact CD_no C
  rw [if_neg h2]
  by_cases h3 : y < 0
  · rw [if_pos h3]; exact CD_no C
  rw [if_neg h3]
  have h4 : (99 : Int32) < y := by
    rcases hxy with h | h
    · rcases h with h | h
      · exact absurd h h1
      · exact absurd h h2
    · rcases h with h | h
      · exact absurd h h3
      · exact Int32.lt_of_lt_of_le (show (99 : Int32) < nI 100 by decide) h
  rw [if_pos h4]; exact CD_no C
theorem c_b106 {h : jh} (R : Nat → Int32 → Int32 → Int32 → Int32 → Int32 → jh → Option (Int32 × jh)) (K : jh → Option (Int32 × jh)) (a0 : Nat) (a1 a2 a3 a4 a5 : Int32) (d1 d2 : Bool) : f_X10_isApart_b106 R K a0 a1 a2 a3 a4 a5 (bn d1) (bn d2) h = if d1 = true ∨ d2 = true then some (bn false, h) else R a0 a1 a2 a3 a4 (a5 + 1) h := by
  unfold f_X10_isApart_b106
  cases d1 <;> cases d2 <;> rfl
theorem c_b66 {h : jh} {w : Nat} {W : ms} {v : vw} (C : ClsV W v) (Wf : WFv v) (R : Nat → Int32 → Int32 → Int32 → Int32 → Int32 → jh → Option (Int32 × jh)) (K : jh → Option (Int32 × jh)) (x r o n : Nat) (a2 : Int32) (d1 : Bool) (hx : x < v 11 0) (hr : r < v 60 x) (ho : o < 100) (hn : n < 100) : f_X10_isApart_b66 R K (w + 15) (nI x) a2 (nI o) (nI n) (nI r) (nI (3 * x + r)) (bn d1) (pw h w W) = if d1 = true ∨ ¬ (o + n ≤ v 62 (3 * x + r) ∨ v 62 (3 * x + r) + v 63 (3 * x + r) ≤ o) then some (bn false, pw h w W) else R (w + 15) (nI x) a2 (nI o) (nI n) (nI r + 1) (pw h w W) := by
  have hc := Wf.c1
  have hu := Wf.uk x hx
  have hg := Wf.rg x r hx hr
  have e2 := C.ro x r hx hr
  have e3 := C.rm x r hx hr
  unfold f_X10_isApart_b66
  rw [pw_gR15_4, cr19 _ _ _ _ _ (by omega), pw_gR15_5, cr20 _ _ _ _ _ (by omega), e2, e3, al_add, pw_gR15_4, cr19 _ _ _ _ _ (by omega), e2, al_add]
  have k1 := iff_of_eq (al_le (a := v 62 (3 * x + r) + v 63 (3 * x + r)) (b := o) (by omega) (by omega))
  have k2 := iff_of_eq (al_le (a := o + n) (b := v 62 (3 * x + r)) (by omega) (by omega))
  by_cases a3 : v 62 (3 * x + r) + v 63 (3 * x + r) ≤ o
  · rw [if_pos (k1.mpr a3), show (0 : Int32) = bn false from rfl, c_b106]
    cases d1 <;> simp [a3]
  · rw [if_neg (mt k1.mp a3)]
    by_cases a4 : o + n ≤ v 62 (3 * x + r)
    · rw [if_pos (k2.mpr a4), show (0 : Int32) = bn false from rfl, c_b106]
      cases d1 <;> simp [a4]
    · rw [if_neg (mt k2.mp a4), show (1 : Int32) = bn true from rfl, c_b106]
      cases d1 <;> simp [a3, a4]
theorem c_apart_l {h : jh} {w : Nat} {W : ms} {v : vw} (C : ClsV W v) (Wf : WFv v) (x i o n : Nat) (hx : x < v 11 0) (hi : i < 100) (ho : o < 100) (hn : n < 100) (L : Nat → Nat → Int32 → Int32 → Int32 → Int32 → Int32 → jh → Option (Int32 × jh)) (hL : ∀ f, L (f + 1) = f_X10_isApart_h3 (fun  h23 => some (1, h23)) (L f)) : ∀ k r f, r + k = v 60 x → k + 1 ≤ f → L f (w + 15) (nI x) (nI i) (nI o) (nI n) (nI r) (pw h w W) = some (bn (aprt v x i o n k r), pw h w W) := by
  have hc := Wf.c1
  have hu := Wf.uk x hx
  intro k
  induction k with
  | zero =>
    intro r f hr hf
    obtain ⟨f, rfl⟩ : ∃ g, f = g + 1 := ⟨f - 1, by omega⟩
    rw [hL]
    unfold f_X10_isApart_h3
    simp (discharger := omega) only [↓al_m, ↓al_m2, al_lit, al_add, al_mul, bd_some, bn_0, bn_1, bn_jz, al_le, pw_gR15_2, cr17, C.rn]
    rw [if_pos (by omega), aprt]
    rfl
  | succ k ih =>
    intro r f hr hf
    obtain ⟨f, rfl⟩ : ∃ g, f = g + 1 := ⟨f - 1, by omega⟩
    have hg := Wf.rg x r hx (by omega)
    have e1 := C.ri x r hx (by omega)
    have e2 := C.ro x r hx (by omega)
    have e3 := C.rm x r hx (by omega)
    rw [hL]
    unfold f_X10_isApart_h3
    have q0 : nI x * 3 + nI r = nI (3 * x + r) := by rw [show (3 : Int32) = nI 3 from rfl, al_mul, al_add, Nat.mul_comm]
    have k0 := iff_of_eq (al_le (a := v 60 x) (b := r) (by omega) (by omega))
    have k9 : ((3 : Int32) ≤ nI r) ↔ 3 ≤ r := iff_of_eq (al_le (a := 3) (b := r) (by omega) (by omega))
    have k1 := iff_of_eq (al_le (a := v 61 (3 * x + r) + v 63 (3 * x + r)) (b := i) (by omega) (by omega))
    have k2 := iff_of_eq (al_le (a := i + n) (b := v 61 (3 * x + r)) (by omega) (by omega))
    have g := ih (r + 1) f (by omega) (by omega)
    rw [pw_gR15_2, cr17 _ _ _ _ _ (by omega), C.rn x hx, if_neg (mt k0.mp (by omega)), if_neg (mt k9.mp (by omega)), q0, pw_gR15_3, cr18 _ _ _ _ _ (by omega), pw_gR15_5, cr20 _ _ _ _ _ (by omega), e1, e3, al_add, pw_gR15_3, cr18 _ _ _ _ _ (by omega), e1, al_add, aprt]
    by_cases a1 : v 61 (3 * x + r) + v 63 (3 * x + r) ≤ i
    · rw [if_pos (k1.mpr a1), show (0 : Int32) = bn false from rfl, c_b66 C Wf _ _ x r o n (nI i) false hx (by omega) ho hn, show nI r + 1 = nI (r + 1) from al_add r 1, g]
      by_cases a2 : o + n ≤ v 62 (3 * x + r) ∨ v 62 (3 * x + r) + v 63 (3 * x + r) ≤ o <;> simp [a1, a2]
    · rw [if_neg (mt k1.mp a1)]
      by_cases a3 : i + n ≤ v 61 (3 * x + r)
      · rw [if_pos (k2.mpr a3), show (0 : Int32) = bn false from rfl, c_b66 C Wf _ _ x r o n (nI i) false hx (by omega) ho hn, show nI r + 1 = nI (r + 1) from al_add r 1, g]
        by_cases a2 : o + n ≤ v 62 (3 * x + r) ∨ v 62 (3 * x + r) + v 63 (3 * x + r) ≤ o <;> simp [a3, a2]
      · rw [if_neg (mt k2.mp a3), show (1 : Int32) = bn true from rfl, c_b66 C Wf _ _ x r o n (nI i) true hx (by omega) ho hn]
        simp [a1, a3]
theorem c_apart {h : jh} {w : Nat} {W : ms} {v : vw} (C : ClsV W v) (Wf : WFv v) (x i o n : Nat) (hx : x < v 11 0) (hi : i < 100) (ho : o < 100) (hn : n < 100) : f_X10_isApart (w + 15) (nI x) (nI i) (nI o) (nI n) (pw h w W) = some (bn (aprt v x i o n (v 60 x) 0), pw h w W) := by
  have hu := Wf.uk x hx
  obtain ⟨f, hf⟩ := jfu_s
  exact c_apart_l C Wf x i o n hx hi ho hn _ (fun _ => rfl) (v 60 x) 0 jfu (by omega) (by omega)
theorem owl_l5 {v : vw} (Wf : WFv v) (x id : Nat) (hx : x < v 11 0) (hid : id < 65535) : owl v (ch v 1 x) id < 65535 := by
  by_cases h1 : x = 0
  · subst h1; rw [owl_0]; omega
  · have hu := Wf.up1 x (by omega) hx
    rw [owl_s Wf x _ (by omega) hx]
    rcases owl_lt Wf (v 21 x) (by omega) _ (thru_ltOut Wf x id hx) with e | e <;> omega
theorem c_known_l {h : jh} {w : Nat} {W : ms} {v : vw} (C : ClsV W v) (Wf : WFv v) (x o n : Nat) (hx : x < v 11 0) (ho : o < 100) (hn : o + n ≤ 100) (L : Nat → Nat → Int32 → Int32 → Int32 → Int32 → jh → Option (Int32 × jh)) (hL : ∀ f, L (f + 1) = f_X10_isKnown_h3 (fun  h6 => some (1, h6)) (L f)) : ∀ k j f, j + k = n → k + 1 ≤ f → L f (w + 15) (nI x) (nI o) (nI n) (nI (o + j)) (pw h w W) = some (bn (knwn v x o k j), pw h w W) := by
  intro k
  induction k with
  | zero =>
    intro j f hj hf
    obtain ⟨f, rfl⟩ : ∃ g, f = g + 1 := ⟨f - 1, by omega⟩
    rw [hL]
    unfold f_X10_isKnown_h3
    simp (discharger := omega) only [↓al_m, ↓al_m2, al_lit, al_add, al_mul, bd_some, bn_0, bn_1, bn_jz, al_le]
    rw [if_pos (by omega), knwn]
    rfl
  | succ k ih =>
    intro j f hj hf
    obtain ⟨f, rfl⟩ : ∃ g, f = g + 1 := ⟨f - 1, by omega⟩
    have h5 := owl_l5 Wf x (o + j) hx (by omega)
    have g := ih (j + 1) f (by omega) (by omega)
    rw [← Nat.add_assoc] at g
    rw [hL]
    unfold f_X10_isKnown_h3
    simp (discharger := omega) only [↓al_m, ↓al_m2, al_lit, al_add, al_mul, bd_some, bn_0, bn_1, bn_jz, al_le, al_eq, pw_cV15, c_out C Wf, g]
    rw [if_neg (by omega), if_neg (by omega), knwn]
    by_cases h1 : owl v (ch v 1 x) (o + j) = 65534 <;> simp [h1, bn]
theorem c_known {h : jh} {w : Nat} {W : ms} {v : vw} (C : ClsV W v) (Wf : WFv v) (x o n : Nat) (hx : x < v 11 0) (ho : o < 100) (hn : o + n ≤ 100) : f_X10_isKnown (w + 15) (nI x) (nI o) (nI n) (pw h w W) = some (bn (knwn v x o n 0), pw h w W) := by
  obtain ⟨f, hf⟩ := jfu_s
  exact c_known_l C Wf x o n hx ho hn _ (fun _ => rfl) n 0 jfu (by omega) (by omega)
/-- whether a range can be taken -/
def ctkV (v : vw) (x i o n : Nat) : Bool := decide (x < v 11 0 ∧ x ≠ 0 ∧ 1 ≤ n ∧ i + n ≤ 100 ∧ o + n ≤ 100 ∧ v 60 x ≠ 3) && (aprt v x i o n (v 60 x) 0 && knwn v (v 21 x) o n 0)
theorem c_canTake {h : jh} {w : Nat} {W : ms} {v : vw} (C : ClsV W v) (Wf : WFv v) (x i o n : Nat) (hx : x < 8) (hi : i < 100) (ho : o < 100) (hn : n < 100) : f_X10_canTake (w + 15) (nI x) (nI i) (nI o) (nI n) (pw h w W) = some (bn (ctkV v x i o n), pw h w W) := by
  have hc := Wf.c1
  have b0 : f_X10_canTake_b50 (w + 15) (nI x) (nI i) (nI o) (nI n) (nI 0) (pw h w W) = some (bn false, pw h w W) := by
    unfold f_X10_canTake_b50; rw [if_pos (show nI 0 = 0 from rfl)]; rfl
  unfold f_X10_canTake ctkV
  simp (discharger := omega) only [↓al_m, al_lit, bd_some, c_isId, bn_0, al_lt, al_le, al_add, b0]
  rw [if_neg (by simp [hi]), if_neg (by simp [ho])]
  by_cases c3 : n < 1
  · rw [if_pos c3, decide_eq_false (by omega)]; rfl
  rw [if_neg c3, if_neg (by omega)]
  by_cases c4 : 100 < i + n
  · rw [if_pos c4, decide_eq_false (by omega)]; rfl
  rw [if_neg c4]
  by_cases c5 : 100 < o + n
  · rw [if_pos c5, decide_eq_false (by omega)]; rfl
  rw [if_neg c5]
  unfold f_X10_canTake_b50
  rw [if_neg (show ¬ nI 1 = 0 by decide), pw_gR15_0, pw_cV16, c_treeHas1 C Wf x (by omega), bd_some]
  by_cases c1 : x < v 11 0
  · have hu := Wf.uk x c1
    rw [decide_eq_true c1, if_neg (show ¬ bn true = 0 by decide)]
    have k0 : (nI x = (0 : Int32)) ↔ x = 0 := iff_of_eq (al_eq (b := 0) (by omega) (by omega))
    by_cases c2 : x = 0
    · rw [if_pos (k0.mpr c2), decide_eq_false (by omega)]; rfl
    · have hup := Wf.up1 x (by omega) c1
      have k3 : ((3 : Int32) ≤ nI (v 60 x)) ↔ 3 ≤ v 60 x := iff_of_eq (al_le (a := 3) (by omega) (by omega))
      rw [if_neg (mt k0.mp c2), pw_gR15_2, cr17 _ _ _ _ _ (by omega), C.rn x c1]
      by_cases c6 : v 60 x = 3
      · rw [if_pos (k3.mpr (by omega)), decide_eq_false (by omega)]; rfl
      · rw [if_neg (mt k3.mp (by omega)), decide_eq_true (show x < v 11 0 ∧ x ≠ 0 ∧ 1 ≤ n ∧ i + n ≤ 100 ∧ o + n ≤ 100 ∧ v 60 x ≠ 3 from ⟨c1, c2, by omega, by omega, by omega, c6⟩)]
        simp (discharger := omega) only [↓al_m, al_lit, bd_some, bn_0, pw_cV15, c_apart C Wf, pw_gR15_0, pw_cV16, c_around1 C Wf, if_neg c2, c_known C Wf]
        cases aprt v x i o n (v 60 x) 0
        · rfl
        · cases knwn v (v 21 x) o n 0 <;> rfl
  · rw [decide_eq_false c1, if_pos (show bn false = 0 by decide), decide_eq_false (fun e => c1 e.1)]; rfl
theorem c_canTake' {h : jh} {w : Nat} {W : ms} {v : vw} (C : ClsV W v) (Wf : WFv v) (x i o n : Int32) (hx : (x < 0 ∨ nI 8 ≤ x) ∨ (i < 0 ∨ nI 100 ≤ i) ∨ (o < 0 ∨ nI 100 ≤ o) ∨ (n < 0 ∨ nI 100 ≤ n)) : f_X10_canTake (w + 15) x i o n (pw h w W) = some (bn false, pw h w W) := by
  have b0 : f_X10_canTake_b50 (w + 15) x i o n 0 (pw h w W) = some (bn false, pw h w W) := by
    unfold f_X10_canTake_b50; rw [if_pos rfl]; rfl
  unfold f_X10_canTake
  rcases i_cases i 100 (by decide) with ⟨i, hi, rfl⟩ | hio
  · rw [c_isId i (by omega), bd_some, decide_eq_true hi, if_neg (by decide)]
    rcases i_cases o 100 (by decide) with ⟨o, ho, rfl⟩ | hoo
    · rw [c_isId o (by omega), bd_some, decide_eq_true ho, if_neg (by decide)]
      by_cases n1 : n < 1
      · rw [if_pos n1]; exact b0
      rw [if_neg n1]
      by_cases n2 : (100 : Int32) ≤ n
      · rw [if_pos n2]; exact b0
      rw [if_neg n2]
      by_cases n3 : (100 : Int32) < nI i + n
      · rw [if_pos n3]; exact b0
      rw [if_neg n3]
      by_cases n4 : (100 : Int32) < nI o + n
      · rw [if_pos n4]; exact b0
      rw [if_neg n4]
      have hx' : x < 0 ∨ nI 8 ≤ x := by
        rcases hx with h | h | h | h
        · exact h
        · exfalso
          rcases h with h | h
          · exact nI_pos (by omega) h
          · rw [al_le (by omega) (by omega)] at h; omega
        · exfalso
          rcases h with h | h
          · exact nI_pos (by omega) h
          · rw [al_le (by omega) (by omega)] at h; omega
        · exfalso
          rcases h with h | h
          · exact n1 (Int32.lt_trans h (by decide))
          · exact n2 h
      unfold f_X10_canTake_b50
      rw [if_neg (by decide), pw_gR15_0, pw_cV16, c_treeHas'1 C Wf x hx', bd_some, if_pos (by decide)]
      rfl
    · rw [c_isId' o hoo, bd_some, if_pos (by decide)]; exact b0
  · rw [c_isId' i hio, bd_some, if_pos (by decide)]; exact b0

theorem c_addR_l {h : jh} {w : Nat} {W : ms} {v : vw} (C : ClsV W v) (Wf : WFv v) (x i e : Nat) (hx : x < v 11 0) (hi : i < 100) (he : e = v 60 x) (he3 : e < 3) (a3 a4 : Int32) : ∀ r c f, r ≤ e → c + r = e → r + 1 ≤ f → ∀ (W1 : ms) (K : Nat → Int32 → Int32 → Int32 → Int32 → Int32 → jh → Option (Int32 × jh)) (L : Nat → Nat → Int32 → Int32 → Int32 → Int32 → Int32 → Int32 → Int32 → jh → Option (Int32 × jh)), (∀ f, L (f + 1) = f_X10_add_h42 K (L f)) →
    (∀ k, k < 3 → ∀ j, W1 (18 + k) j = if 3 * x + (r + 1) ≤ j ∧ j < 3 * x + (e + 1) then W (18 + k) (j - 1) else W (18 + k) j) →
    ∃ W2 : ms, L f (w + 15) (nI x) (nI i) a3 a4 (nI (3 * x)) (nI (3 * x + r)) (nI c) (pw h w W1) = K (w + 15) (nI x) (nI i) a3 a4 (nI (3 * x + rpl v x i r)) (pw h w W2) ∧ (∀ f, ¬ (18 ≤ f ∧ f ≤ 20) → W2 f = W1 f) ∧ (∀ k, k < 3 → ∀ j, W2 (18 + k) j = if 3 * x + (rpl v x i r + 1) ≤ j ∧ j < 3 * x + (e + 1) then W (18 + k) (j - 1) else W (18 + k) j) := by
  have hc := Wf.c1
  intro r
  induction r with
  | zero =>
    intro c f hr hce hf W1 K L hL hW
    obtain ⟨f, rfl⟩ : ∃ g, f = g + 1 := ⟨f - 1, by omega⟩
    refine ⟨W1, ?_, fun _ _ => rfl, ?_⟩
    · rw [hL]
      unfold f_X10_add_h42
      simp (discharger := omega) only [↓al_m, ↓al_m2, al_lit, al_add, al_mul, bd_some, bn_0, bn_1, bn_jz, al_le]
      rw [if_neg (by omega), if_pos (by omega), rpl]
    · rw [rpl]; exact hW
  | succ r ih =>
    intro c f hr hce hf W1 K L hL hW
    obtain ⟨f, rfl⟩ : ∃ g, f = g + 1 := ⟨f - 1, by omega⟩
    have hg := Wf.rg x r hx (by omega)
    have e1 : W1 18 (3 * x + r) = nI (v 61 (3 * x + r)) := by
      rw [show W1 18 (3 * x + r) = _ from hW 0 (by decide) (3 * x + r), if_neg (by omega)]
      exact C.ri x r hx (by omega)
    by_cases h1 : v 61 (3 * x + r) ≤ i
    · refine ⟨W1, ?_, fun _ _ => rfl, ?_⟩
      · rw [hL]
        unfold f_X10_add_h42
        simp (discharger := omega) only [↓al_m, ↓al_m2, al_lit, al_add, al_mul, bd_some, bn_0, bn_1, bn_jz, al_le, al_sub, pw_gR15_3, show 3 * x + (r + 1) - 1 = 3 * x + r by omega, cr18, e1]
        rw [if_neg (by omega), if_neg (by omega), if_pos h1, rpl, if_pos h1]
      · rw [rpl, if_pos h1]; exact hW
    · obtain ⟨W2, E2, N2, T2⟩ := ih (c + 1) f (by omega) (by omega) (by omega) (sw (sw (sw W1 18 (upd (W1 18) (3 * x + (r + 1)) (W1 18 (3 * x + r)))) 19 (upd (W1 19) (3 * x + (r + 1)) (W1 19 (3 * x + r)))) 20 (upd (W1 20) (3 * x + (r + 1)) (W1 20 (3 * x + r)))) K L hL (by
        intro k hk j
        have hj : (sw (sw (sw W1 18 (upd (W1 18) (3 * x + (r + 1)) (W1 18 (3 * x + r)))) 19 (upd (W1 19) (3 * x + (r + 1)) (W1 19 (3 * x + r)))) 20 (upd (W1 20) (3 * x + (r + 1)) (W1 20 (3 * x + r)))) (18 + k) = upd (W1 (18 + k)) (3 * x + (r + 1)) (W1 (18 + k) (3 * x + r)) := by
          have : k = 0 ∨ k = 1 ∨ k = 2 := by omega
          rcases this with rfl | rfl | rfl <;> simp (discharger := omega) only [Nat.reduceAdd, Nat.add_zero, sw_ne, sw_eq]
        rw [hj]
        unfold upd
        rw [hW k hk j, hW k hk (3 * x + r), if_neg (show ¬ (3 * x + (r + 1 + 1) ≤ 3 * x + r ∧ 3 * x + r < 3 * x + (e + 1)) by omega)]
        by_cases h2 : j = 3 * x + (r + 1)
        · rw [if_pos h2, if_pos (by omega)]; congr 1; omega
        · rw [if_neg h2]
          by_cases h3 : 3 * x + (r + 1 + 1) ≤ j ∧ j < 3 * x + (e + 1)
          · rw [if_pos h3, if_pos (by omega)]
          · rw [if_neg h3, if_neg (by omega)])
      refine ⟨W2, ?_, ?_, ?_⟩
      · rw [hL]
        unfold f_X10_add_h42
        simp (discharger := omega) only [↓al_m, ↓al_m2, al_lit, al_add, al_mul, bd_some, bn_0, bn_1, bn_jz, al_le, al_sub, pw_gR15_3, pw_gR15_4, pw_gR15_5, show 3 * x + (r + 1) - 1 = 3 * x + r by omega, cr18, cr19, cr20, cw18, cw19, cw20, sw_ne, sw_eq]
        rw [if_neg (by omega), if_neg (by omega), if_neg (by rw [e1, al_le (by omega) (by omega)]; exact h1), nm1_add, al_sub (by omega), show 3 * x + (r + 1) - 1 = 3 * x + r by omega, rpl, if_neg h1]
        exact E2
      · intro f hf2
        rw [N2 f hf2]
        simp (discharger := omega) only [sw_ne]
      · rw [rpl, if_neg h1]; exact T2
theorem c_addR {h : jh} {w : Nat} {W : ms} {v : vw} (C : ClsV W v) (Wf : WFv v) (x i o n : Nat) (hx : x < v 11 0) (h3 : v 60 x ≠ 3) (hi : i < 100) : CD h w (f_X10_add (w + 15) (nI x) (nI i) (nI o) (nI n) (pw h w W)) (nI (v 60 x + 1), rin v x (rpl v x i (v 60 x)) i o n) := by
  have hc := Wf.c1
  have hu := Wf.uk x hx
  obtain ⟨f, hf⟩ := jfu_s
  have hrl := rpl_le v x i (v 60 x)
  obtain ⟨W2, E2, N2, T2⟩ := c_addR_l (h := h) (w := w) C Wf x i (v 60 x) hx hi rfl (by omega) (nI o) (nI n) (v 60 x) 0 jfu (Nat.le_refl _) (by omega) (by omega) W (fun y28 y29 y30 y31 y32 y33 h27 => f_X10_add_b125 y28 y29 y30 y31 y32 y33 h27) (jlp8 (f_X10_add_h42 (fun y28 y29 y30 y31 y32 y33 h27 => f_X10_add_b125 y28 y29 y30 y31 y32 y33 h27))) (fun _ => rfl) (by intro k hk j; rw [if_neg (by omega)])
  unfold f_X10_add
  rw [pw_gR15_0, pw_cV16, c_treeHas1 C Wf x (by omega), bd_some, decide_eq_true hx, if_neg (by decide), pw_gR15_2, cr17 _ _ _ _ _ (by omega), C.rn x hx]
  rw [if_pos (show nI (v 60 x) < (3 : Int32) from (al_lt (b := 3) (by omega) (by omega)).mpr (by omega)), pw_gR15_2, cr17 _ _ _ _ _ (by omega), C.rn x hx]
  rw [show nI x * 3 = nI (3 * x) by rw [show (3 : Int32) = nI 3 from rfl, al_mul, Nat.mul_comm], al_add]
  refine Eq.subst (motive := fun z => CD h w z _) E2.symm ?_
  generalize rpl v x i (v 60 x) = r at hrl T2 ⊢
  have e17 : W2 17 = W 17 := N2 17 (by omega)
  show CD h w (f_X10_add_b125 (w + 15) (nI x) (nI i) (nI o) (nI n) (nI (3 * x + r)) (pw h w W2)) _
  unfold f_X10_add_b125
  simp (discharger := omega) only [↓al_m, ↓al_m2, al_lit, al_add, al_mul, bd_some, bn_0, bn_1, bn_jz, pw_gR15_2, pw_gR15_3, pw_gR15_4, pw_gR15_5, cw18, cw19, cw20, cw17, cr17, sw_ne, sw_eq, e17, C.rn, upd_at]
  refine ⟨_, rfl, ?_⟩
  have v60 : rin v x r i o n 60 x = v 60 x + 1 := by unfold rin; rw [if_pos ⟨rfl, rfl⟩]
  have at0 : ∀ a, 61 ≤ a → a ≤ 63 → rin v x r i o n a (3 * x + r) = if a = 61 then i else if a = 62 then o else n := by
    intro a h1 h2; unfold rin; rw [if_neg (by omega), if_pos ⟨h1, h2, rfl⟩]
  have atg : ∀ a q, 61 ≤ a → a ≤ 63 → r < q → q ≤ v 60 x → rin v x r i o n a (3 * x + q) = v a (3 * x + (q - 1)) := by
    intro a q h1 h2 h3 h4; unfold rin; rw [if_neg (by omega), if_neg (by omega), if_pos ⟨h1, h2, by omega, by omega⟩]; congr 1; omega
  have atl : ∀ a q, 61 ≤ a → a ≤ 63 → q < r → rin v x r i o n a (3 * x + q) = v a (3 * x + q) := by
    intro a q h1 h2 h3; unfold rin; rw [if_neg (by omega), if_neg (by omega), if_neg (by omega)]
  have t0 : ∀ j, W2 18 j = _ := T2 0 (by decide)
  have t1 : ∀ j, W2 19 j = _ := T2 1 (by decide)
  have t2 : ∀ j, W2 20 j = _ := T2 2 (by decide)
  show ClsV _ (rin v x r i o n)
  refine ClsV_rg C Wf.bd x hx ?_ ?_ ?_ ?_ ?_ ?_ ?_ ?_ ?_ ?_
  · intro f hf; simp (discharger := omega) only [sw_ne, N2]
  · intro a j hj
    unfold rin
    rw [if_neg (by omega), if_neg (by omega), if_neg (by omega)]
  · intro j hj; simp (discharger := omega) only [sw_ne, sw_eq, upd_ne', e17]
  · intro j hj; simp (discharger := omega) only [sw_ne, sw_eq, upd_ne']; rw [t0, if_neg (by omega)]
  · intro j hj; simp (discharger := omega) only [sw_ne, sw_eq, upd_ne']; rw [t1, if_neg (by omega)]
  · intro j hj; simp (discharger := omega) only [sw_ne, sw_eq, upd_ne']; rw [t2, if_neg (by omega)]
  · rw [v60]; simp (discharger := omega) only [sw_ne, sw_eq, upd_at]
  · intro q hq
    rw [v60] at hq
    by_cases h1 : q = r
    · rw [h1, at0 61 (by omega) (by omega)]
      simp (discharger := omega) only [sw_ne, sw_eq, upd_at]
      rfl
    · simp (discharger := omega) only [sw_ne, sw_eq, upd_ne']
      rw [t0]
      by_cases h2 : q < r
      · rw [if_neg (by omega), atl 61 q (by omega) (by omega) h2]
        exact C.ri x q hx (by omega)
      · rw [if_pos (by omega), atg 61 q (by omega) (by omega) (by omega) (by omega), show 3 * x + q - 1 = 3 * x + (q - 1) by omega]
        exact C.ri x (q - 1) hx (by omega)
  · intro q hq
    rw [v60] at hq
    by_cases h1 : q = r
    · rw [h1, at0 62 (by omega) (by omega)]
      simp (discharger := omega) only [sw_ne, sw_eq, upd_at]
      rfl
    · simp (discharger := omega) only [sw_ne, sw_eq, upd_ne']
      rw [t1]
      by_cases h2 : q < r
      · rw [if_neg (by omega), atl 62 q (by omega) (by omega) h2]
        exact C.ro x q hx (by omega)
      · rw [if_pos (by omega), atg 62 q (by omega) (by omega) (by omega) (by omega), show 3 * x + q - 1 = 3 * x + (q - 1) by omega]
        exact C.ro x (q - 1) hx (by omega)
  · intro q hq
    rw [v60] at hq
    by_cases h1 : q = r
    · rw [h1, at0 63 (by omega) (by omega)]
      simp (discharger := omega) only [sw_ne, sw_eq, upd_at]
      rfl
    · simp (discharger := omega) only [sw_ne, sw_eq, upd_ne']
      rw [t2]
      by_cases h2 : q < r
      · rw [if_neg (by omega), atl 63 q (by omega) (by omega) h2]
        exact C.rm x q hx (by omega)
      · rw [if_pos (by omega), atg 63 q (by omega) (by omega) (by omega) (by omega), show 3 * x + q - 1 = 3 * x + (q - 1) by omega]
        exact C.rm x (q - 1) hx (by omega)
theorem c_map {h : jh} {w : Nat} {W : ms} {v : vw} (C : ClsV W v) (Wf : WFv v) (p x i o n : Nat) (hp : p < 16) (hp1 : v 0 p = 1) (hx : x < 8) (hi : i < 100) (ho : o < 100) (hn : n < 100) : CD h w (f_X11_addRange w (nI p) (nI x) (nI i) (nI o) (nI n) (pw h w W)) (dMap v p x i o n) := by
  have hc := Wf.c1
  have hq := Wf.pr p hp
  unfold f_X11_addRange dMap
  rw [pw_gR0_2, pw_cV15, c_canTake C Wf x i o n hx hi ho hn, bd_some]
  have ec : cmpV v p x i o n = (ctkV v x i o n && (ovp v p (v 21 x) || (decide (n = 1 ∧ v 6 p = v 41 x) && decide (iwl v (ch v 1 (v 21 x)) (v 6 p) = o)))) := by
    unfold cmpV ctkV; simp only [Bool.and_assoc]
  cases hC : ctkV v x i o n
  · rw [if_neg (by decide), ec, hC, if_neg (by simp)]; exact CD_no C
  · rw [if_pos (by decide), ec, hC, Bool.true_and]
    have hcv : x < v 11 0 ∧ x ≠ 0 ∧ 1 ≤ n ∧ i + n ≤ 100 ∧ o + n ≤ 100 ∧ v 60 x ≠ 3 := by
      unfold ctkV at hC
      rw [Bool.and_eq_true] at hC
      exact of_decide_eq_true hC.1
    have hu := Wf.uk x hcv.1
    have hup := Wf.up1 x (by omega) hcv.1
    have e5 : W 5 p = nI (v 6 p) := C.pa p 5 hp (by decide)
    have hiw := iwl_lt Wf (v 21 x) (by omega) (v 6 p) (by omega)
    have b105 : CD h w (f_X11_addRange_b105 w (nI x) (nI i) (nI o) (nI n) (pw h w W)) (nI (v 60 x + 1), rin v x (rpl v x i (v 60 x)) i o n) := by
      unfold f_X11_addRange_b105
      rw [pw_gR0_2, pw_cV15]
      obtain ⟨W', E, C'⟩ := c_addR (h := h) (w := w) C Wf x i o n hcv.1 hcv.2.2.2.2.2 hi
      rw [E, bd_some]
      exact ⟨W', rfl, C'⟩
    have b86 : ∀ c, CD h w (f_X11_addRange_b86 w (nI p) (nI x) (nI i) (nI o) (nI n) (nI (v 21 x)) (bn c) (pw h w W)) (if i < 100 ∧ o < 100 ∧ n < 100 ∧ x < 8 ∧ (ovp v p (v 21 x) || c) = true then (nI (v 60 x + 1), rin v x (rpl v x i (v 60 x)) i o n) else (nm1, v)) := by
      intro c
      unfold f_X11_addRange_b86
      cases c
      · rw [if_neg (by decide), pw_cV0, c_rules C Wf p (v 21 x) hp hp1 (by omega), bd_some]
        cases ovp v p (v 21 x)
        · rw [if_neg (by decide), if_neg (by simp)]; exact CD_no C
        · rw [if_pos (by decide), if_pos ⟨hi, ho, hn, hx, rfl⟩]; exact b105
      · rw [if_pos (by decide), if_pos ⟨hi, ho, hn, hx, by simp⟩]; exact b105
    rw [pw_gR0_2, pw_gR15_0, pw_cV16, c_around1 C Wf x hcv.1, bd_some, if_neg hcv.2.1]
    have k1 : (nI n = (1 : Int32)) ↔ n = 1 := iff_of_eq (al_eq (b := 1) (by omega) (by omega))
    have k2 := iff_of_eq (al_eq (a := v 6 p) (b := v 41 x) (by omega) (by omega))
    have k3 := iff_of_eq (al_eq (a := iwl v (ch v 1 (v 21 x)) (v 6 p)) (b := o) (by omega) (by omega))
    by_cases d1 : n = 1
    · rw [if_neg (not_not_intro (k1.mpr d1)), pw_gR0_0, pw_gR1_5, cr5 _ _ _ _ _ hp, e5, pw_gR0_2, pw_gR15_1, cr16 _ _ _ _ _ hx, C.uk x hcv.1]
      by_cases d2 : v 6 p = v 41 x
      · rw [if_neg (not_not_intro (k2.mpr d2)), pw_gR0_2, pw_gR0_0, pw_gR1_5, cr5 _ _ _ _ _ hp, e5, pw_cV15, c_in C Wf (v 21 x) (v 6 p) (by omega) (by omega), bd_some, decide_eq_true (show n = 1 ∧ v 6 p = v 41 x from ⟨d1, d2⟩), Bool.true_and]
        by_cases d3 : iwl v (ch v 1 (v 21 x)) (v 6 p) = o
        · rw [if_neg (not_not_intro (k3.mpr d3)), decide_eq_true d3]; exact b86 true
        · rw [if_pos (mt k3.mp d3), decide_eq_false d3]; exact b86 false
      · rw [if_pos (mt k2.mp d2), decide_eq_false (fun e => d2 e.2), Bool.false_and]; exact b86 false
    · rw [if_pos (mt k1.mp d1), decide_eq_false (fun e => d1 e.1), Bool.false_and]; exact b86 false
theorem c_map' {h : jh} {w : Nat} {W : ms} {v : vw} (C : ClsV W v) (Wf : WFv v) (p : Nat) (x i o n : Int32) (hx : (x < 0 ∨ nI 8 ≤ x) ∨ (i < 0 ∨ nI 100 ≤ i) ∨ (o < 0 ∨ nI 100 ≤ o) ∨ (n < 0 ∨ nI 100 ≤ n)) : CD h w (f_X11_addRange w (nI p) x i o n (pw h w W)) (nm1, v) := by
  unfold f_X11_addRange
  rw [pw_gR0_2, pw_cV15, c_canTake' C Wf x i o n hx, bd_some, if_neg (by decide)]
  exact CD_no C
