/-! the reference's deeds: fork -/
theorem nxt_le (P : Nat → Bool) : ∀ k g, g ≤ 20 → nxt P k g ≤ 20 := by
  intro k
  induction k with
  | zero => intro g hg; rw [nxt]; omega
  | succ k ih =>
    intro g hg
    rw [nxt]
    have h1 : (if 20 ≤ g then 2 else g + 1) ≤ 20 := by by_cases h : 20 ≤ g <;> simp [h]; omega
    by_cases h : P (if 20 ≤ g then 2 else g + 1) = true
    · rw [if_pos h]; exact ih _ h1
    · rw [if_neg h]; exact h1
theorem nxt_eq {P Q : Nat → Bool} (h : ∀ j, P j = Q j) : ∀ k g, nxt P k g = nxt Q k g := by
  have : P = Q := funext h
  intro k g; rw [this]
theorem fre_le {v : vw} (W : WFv v) (x : Nat) (own : Bool) (hx : x < v 10 0) : fre v x own ≤ 20 := by
  unfold fre
  have := W.nk x hx
  by_cases h : own = true ∧ v 51 x = 0
  · rw [if_pos h]; omega
  · rw [if_neg h]; exact nxt_le _ _ _ (by omega)
def fkC (v : vw) (s : Nat) (l : List Nat) : Bool := l.all (fun o => decide (0 < fre v o (decide (o = s))))
theorem t_fk1 {h : jh} {m : Nat} {s : ms} {v : vw} (R : RowV (s 2) v) (W : WFv v) (x : Nat) (a1 a3 : Int32) (hx0 : x < v 10 0) (K : Nat → Int32 → Int32 → Int32 → Int32 → jh → Option (Int32 × jh)) (L : Nat → Nat → Int32 → Int32 → Int32 → Int32 → Int32 → jh → Option (Int32 × jh)) (hL : ∀ f, L (f + 1) = f_X13_forkNow_h55 K (L f)) : ∀ o, o < v 10 0 → ∀ (b : Bool) f, o + 2 ≤ f → L f m a1 (nI x) a3 (bn b) (nI o) (pm h m s) = K m a1 (nI x) a3 (bn (b && fkC v x (ch v 0 o))) (pm h m s) := by
  have hc := W.c0
  intro o
  induction o using Nat.strongRecOn with
  | ind o ih =>
    intro ho b f hf
    obtain ⟨f, rfl⟩ : ∃ g, f = g + 1 + 1 := ⟨f - 2, by omega⟩
    rw [hL]
    have hfr := fre_le W o (decide (o = x)) ho
    have step : f_X13_forkNow_h55 K (L (f + 1)) m a1 (nI x) a3 (bn b) (nI o) (pm h m s) = L (f + 1) m a1 (nI x) a3 (bn (b && decide (0 < fre v o (decide (o = x))))) (if o = 0 then nm1 else nI (v 20 o)) (pm h m s) := by
      unfold f_X13_forkNow_h55 f_X13_forkNow_b80 f_X13_forkNow_b91
      have t0 : f_X13_freeNumber m (nI o) (nI 0) (pm h m s) = _ := t_free R W o false ho
      have t1 : f_X13_freeNumber m (nI o) (nI 1) (pm h m s) = _ := t_free R W o true ho
      have g0 := fre_le W o false ho
      have g1 := fre_le W o true ho
      simp (discharger := omega) only [↓al_m, al_lit, bd_some, pm_cV, bn_0, v_ar0 R W, nm1_ne, al_eq, al_le, t0, t1, if_false]
      cases b
      · rfl
      · by_cases h1 : o = x
        · rw [h1] at g1 ⊢
          by_cases h2 : fre v x true = 0
          · simp [h2, bn]
          · have : ¬ fre v x true ≤ 0 := by omega
            have h3 : 0 < fre v x true := by omega
            simp [this, h3, bn]
        · by_cases h2 : fre v o false = 0
          · simp [h1, h2, bn]
          · have : ¬ fre v o false ≤ 0 := by omega
            have h3 : 0 < fre v o false := by omega
            simp [h1, this, h3, bn]
    rw [step]
    by_cases h0 : o = 0
    · subst h0
      rw [if_pos rfl, hL]
      unfold f_X13_forkNow_h55
      simp only [al_m, if_true]
      rw [ch_0]
      simp [fkC]
    · have hu := W.up0 o (by omega) ho
      rw [if_neg h0, ih _ hu (by omega) _ _ (by omega), ch_s0 W (by omega) ho]
      simp [fkC, Bool.and_assoc]
/-- the numbers of the child in the spaces of a list, given; the rest 0 -/
def fkD (v : vw) (c x : Nat) (D : List Nat) : vw := fun a j =>
  if a = 8 ∧ 8 * c ≤ j ∧ j < 8 * c + 8 then (if (j - 8 * c) ∈ D then fre v (j - 8 * c) (decide (j - 8 * c = x)) else 0)
  else if a = 50 ∧ j ∈ D ∧ 1 < fre v j (decide (j = x)) then fre v j (decide (j = x)) else v a j
theorem fkD_ne (v : vw) (c x : Nat) (D : List Nat) (a j : Nat) (h1 : a ≠ 8) (h2 : a ≠ 50) : fkD v c x D a j = v a j := by
  unfold fkD; rw [if_neg (by omega), if_neg (by omega)]
theorem fkD_8 (v : vw) (c x : Nat) (D : List Nat) (y : Nat) (hy : y < 8) : fkD v c x D 8 (8 * c + y) = if y ∈ D then fre v y (decide (y = x)) else 0 := by
  unfold fkD; rw [if_pos ⟨rfl, by omega, by omega⟩, Nat.add_sub_cancel_left]
theorem fkD_8' (v : vw) (c x : Nat) (D : List Nat) (q y : Nat) (hq : q ≠ c) (hy : y < 8) : fkD v c x D 8 (8 * q + y) = v 8 (8 * q + y) := by
  unfold fkD; rw [if_neg (by omega), if_neg (by omega)]
theorem fkD_50 (v : vw) (c x : Nat) (D : List Nat) (y : Nat) : fkD v c x D 50 y = if y ∈ D ∧ 1 < fre v y (decide (y = x)) then fre v y (decide (y = x)) else v 50 y := by
  unfold fkD
  rw [if_neg (by omega)]
  by_cases h : y ∈ D ∧ 1 < fre v y (decide (y = x))
  · rw [if_pos ⟨rfl, h⟩, if_pos h]
  · rw [if_neg (fun e => h e.2), if_neg h]
theorem WFv_850 {v v' : vw} (W : WFv v) (E : ∀ b, b ≠ 8 → b ≠ 50 → v' b = v b) (h8 : ∀ p s, p < 16 → s < 8 → v' 8 (8 * p + s) ≤ 20) (h5 : ∀ x, x < v 10 0 → 1 ≤ v' 50 x ∧ v' 50 x ≤ 20 ∧ (v 51 x = 0 → v' 50 x = 1)) : WFv v' := by
  refine ⟨?_, ?_, ?_, h8, ?_, ?_, ?_, ?_, ?_, ?_, ?_, ?_, ?_⟩
  · rw [E 0 (by omega) (by omega)]; exact W.th
  · intro k hk; rw [E _ (by omega) (by omega)]; exact W.ct k hk
  · rw [E 1 (by omega) (by omega), E 2 (by omega) (by omega), E 3 (by omega) (by omega), E 4 (by omega) (by omega), E 5 (by omega) (by omega), E 6 (by omega) (by omega), E 7 (by omega) (by omega), E 10 (by omega) (by omega), E 11 (by omega) (by omega), E 12 (by omega) (by omega)]; exact W.pr
  · intro k s hk; rw [E _ (by omega) (by omega), E (20 + k) (by omega) (by omega)]; exact W.up k s hk
  · intro k s hk; rw [E _ (by omega) (by omega), E (20 + k) (by omega) (by omega), E (30 + k) (by omega) (by omega)]; exact W.du k s hk
  · intro k hk; rw [E _ (by omega) (by omega)]; exact W.d0 k hk
  · intro k s hk; rw [E _ (by omega) (by omega), E (30 + k) (by omega) (by omega)]; exact W.d4 k s hk
  · intro s
    rw [E 10 (by omega) (by omega), E 40 (by omega) (by omega), E 11 (by omega) (by omega), E 51 (by omega) (by omega)]
    intro hs
    have := W.nk s hs
    have g := h5 s hs
    exact ⟨this.1, g.1, g.2.1, this.2.2.2.1, g.2.2⟩
  · rw [E 11 (by omega) (by omega), E 41 (by omega) (by omega), E 60 (by omega) (by omega)]; exact W.uk
  · rw [E 11 (by omega) (by omega), E 61 (by omega) (by omega), E 60 (by omega) (by omega), E 62 (by omega) (by omega), E 63 (by omega) (by omega)]; exact W.rg
  · rw [E 12 (by omega) (by omega), E 42 (by omega) (by omega), E 11 (by omega) (by omega), E 70 (by omega) (by omega)]; exact W.mk
  · rw [E 12 (by omega) (by omega), E 71 (by omega) (by omega)]; exact W.tg
theorem fre_gv {v : vw} (W : WFv v) (y x : Nat) (hy : y < v 10 0) (hx : x < v 10 0) (h51 : ∀ y, y < v 10 0 → y ≠ x → v 51 y ≠ 0) (h1 : 1 < fre v y (decide (y = x))) : v 51 y ≠ 0 := by
  intro h0
  by_cases h : y = x
  · unfold fre at h1; rw [if_pos ⟨by simp [h], h0⟩] at h1; omega
  · exact h51 y hy h h0
theorem WFv_fkD {v : vw} (W : WFv v) (c x : Nat) (D : List Nat) (hx : x < v 10 0) (hD : ∀ y, y ∈ D → y < v 10 0) (h51 : ∀ y, y ∈ D → y ≠ x → v 51 y ≠ 0) : WFv (fkD v c x D) := by
  have hc := W.c0
  refine WFv_850 W (fun b h0 h1 => by funext j; exact fkD_ne v c x D b j h0 h1) ?_ ?_
  · intro p y hp hy
    by_cases h : p = c
    · rw [h, fkD_8 _ _ _ _ _ hy]
      by_cases h1 : y ∈ D
      · rw [if_pos h1]; exact fre_le W y _ (hD y h1)
      · rw [if_neg h1]; omega
    · rw [fkD_8' _ _ _ _ _ _ h hy]; exact W.nm p y hp hy
  · intro y hy
    have g := W.nk y hy
    rw [fkD_50]
    by_cases h : y ∈ D ∧ 1 < fre v y (decide (y = x))
    · rw [if_pos h]
      have := fre_le W y (decide (y = x)) hy
      refine ⟨by omega, this, fun h0 => ?_⟩
      exfalso
      by_cases h2 : y = x
      · have h3 := h.2
        unfold fre at h3; rw [if_pos ⟨by simp [h2], h0⟩] at h3; omega
      · exact h51 y h.1 h2 h0
    · rw [if_neg h]; exact ⟨g.2.1, g.2.2.1, g.2.2.2.2⟩
theorem who_fkD (v : vw) (c x : Nat) (D : List Nat) (hc : v 0 c ≠ 1) (y n : Nat) (hy : y < 8) : who (fkD v c x D) y n = who v y n := by
  unfold who
  apply ff_eq
  intro q _ _
  unfold whP
  rw [fkD_ne _ _ _ _ _ _ (by omega) (by omega)]
  by_cases h : q = c
  · subst h; simp [hc]
  · rw [fkD_8' _ _ _ _ _ _ h hy]
theorem fre_fkD (v : vw) (c x : Nat) (D : List Nat) (hc : v 0 c ≠ 1) (y : Nat) (own : Bool) (hy : y < 8) (hyD : y ∉ D) : fre (fkD v c x D) y own = fre v y own := by
  have e50 : fkD v c x D 50 y = v 50 y := by rw [fkD_50, if_neg (fun e => hyD e.1)]
  have et : tkn (fkD v c x D) y = tkn v y := by funext n; unfold tkn; rw [who_fkD v c x D hc y n hy]
  unfold fre
  rw [fkD_ne _ _ _ _ _ _ (by omega) (by omega), e50, et]
theorem t_fk2 {h : jh} {m : Nat} {s : ms} (c : Nat) (hc : c < 16) (a1 a2 : Int32) (K : Nat → Int32 → Int32 → Int32 → jh → Option (Int32 × jh)) (L : Nat → Nat → Int32 → Int32 → Int32 → Int32 → jh → Option (Int32 × jh)) (hL : ∀ f, L (f + 1) = f_X13_forkNow_h116 K (L f)) : ∀ k i n f, i + k = 8 → k + 1 ≤ f → L f m a1 a2 (nI c) (nI i) (pm h m (sw s 2 n)) = K m a1 a2 (nI c) (pm h m (sw s 2 (zb n (128 + 8 * c) i 8))) := by
  intro k
  induction k with
  | zero =>
    intro i n f hi hf
    obtain ⟨f, rfl⟩ : ∃ g, f = g + 1 := ⟨f - 1, by omega⟩
    rw [hL]
    unfold f_X13_forkNow_h116
    simp (discharger := omega) only [↓al_m, al_lit, al_add, al_mul, bd_some, pm_cV, pm_gR2, bn_0, bn_1, bn_jz, al_le]
    rw [if_pos (by omega), show i = 8 by omega, zb_end]
  | succ k ih =>
    intro i n f hi hf
    obtain ⟨f, rfl⟩ : ∃ g, f = g + 1 := ⟨f - 1, by omega⟩
    rw [hL]
    unfold f_X13_forkNow_h116
    simp (discharger := omega) only [↓al_m, al_lit, al_add, al_mul, bd_some, pm_cV, pm_gR2, bn_0, bn_1, bn_jz, al_le, wr2, st2_sw, sw_sw, sw_eq, r_processAt, r_spaceAt, r_numberAt]
    rw [if_neg (by omega), ih (i + 1) _ f (by omega) (by omega), show 128 + (8 * c + i) = 128 + 8 * c + i by omega, zb_step _ _ _ _ (by omega)]
theorem RowV_zn {n : Nat → Int32} {v : vw} (R : RowV n v) (B : Bd v) (c x : Nat) (hc : c < 16) : RowV (zb n (128 + 8 * c) 0 8) (fkD v c x []) := by
  refine RowV_nm R B c hc ?_ ?_ ?_
  · intro j hj; exact zb_out (by omega)
  · intro a j h; unfold fkD; rw [if_neg h, if_neg (by simp)]
  · intro y hy
    rw [zb_in (by omega), fkD_8 _ _ _ _ _ hy, if_neg (by simp)]
theorem fkD_cons (v : vw) (c x o : Nat) (D : List Nat) (ho : o < 8) (a j : Nat) (h : ¬ (a = 8 ∧ j = 8 * c + o) ∧ ¬ (a = 50 ∧ j = o)) : fkD v c x (o :: D) a j = fkD v c x D a j := by
  unfold fkD
  by_cases h1 : a = 8 ∧ 8 * c ≤ j ∧ j < 8 * c + 8
  · rw [if_pos h1, if_pos h1]
    have h2 : j - 8 * c ≠ o := by omega
    by_cases h3 : j - 8 * c ∈ D
    · rw [if_pos h3, if_pos (List.mem_cons_of_mem _ h3)]
    · rw [if_neg h3, if_neg (by simp [h2, h3])]
  · rw [if_neg h1, if_neg h1]
    by_cases h2 : a = 50
    · have h3 : j ≠ o := by omega
      by_cases h4 : a = 50 ∧ j ∈ D ∧ 1 < fre v j (decide (j = x))
      · rw [if_pos h4, if_pos ⟨h4.1, List.mem_cons_of_mem _ h4.2.1, h4.2.2⟩]
      · rw [if_neg h4, if_neg]
        rintro ⟨g1, g2, g3⟩
        rcases List.mem_cons.mp g2 with g4 | g4
        · exact h3 g4
        · exact h4 ⟨g1, g4, g3⟩
    · rw [if_neg (by omega), if_neg (by omega)]
theorem t_fk3 {h : jh} {m : Nat} {s : ms} {v : vw} (W : WFv v) (c x : Nat) (hc : c < 16) (hc0 : v 0 c ≠ 1) (hx : x < v 10 0) (h51 : ∀ y, y ∈ ch v 0 x → y ≠ x → v 51 y ≠ 0) (a1 : Int32) : ∀ o, o < v 10 0 → ∀ (D : List Nat) n f, o + 2 ≤ f → (∀ y, y ∈ D → o < y ∧ y < v 10 0) → (∀ y, y ∈ ch v 0 x ↔ y ∈ D ∨ y ∈ ch v 0 o) → RowV n (fkD v c x D) →
    ∃ n', (∀ (K : Nat → Int32 → Int32 → Int32 → jh → Option (Int32 × jh)) (L : Nat → Nat → Int32 → Int32 → Int32 → Int32 → jh → Option (Int32 × jh)), (∀ f, L (f + 1) = f_X13_forkNow_h144 K (L f)) → L f m a1 (nI x) (nI c) (nI o) (pm h m (sw s 2 n)) = K m a1 (nI x) (nI c) (pm h m (sw s 2 n'))) ∧ RowV n' (fkD v c x (ch v 0 x)) := by
  have h8 := W.c0
  intro o
  induction o using Nat.strongRecOn with
  | ind o ih =>
    intro ho D n f hf hD hDc R
    obtain ⟨f, rfl⟩ : ∃ g, f = g + 1 + 1 := ⟨f - 2, by omega⟩
    have hoD : o ∉ D := fun e => by have := hD o e; omega
    have W1 : WFv (fkD v c x D) := WFv_fkD W c x D hx (fun y hy => (hD y hy).2) (fun y hy => h51 y ((hDc y).mpr (Or.inl hy)))
    have R' : RowV ((sw s 2 n) 2) (fkD v c x D) := by rw [sw_eq]; exact R
    have e10 : fkD v c x D 10 0 = v 10 0 := fkD_ne _ _ _ _ _ _ (by omega) (by omega)
    have efr : ∀ own, fre (fkD v c x D) o own = fre v o own := fun own => fre_fkD v c x D hc0 o own (by omega) hoD
    have hfr := fre_le W o (decide (o = x)) ho
    -- the row after this space
    have hrow : ∃ n2, (∀ (K : Nat → Int32 → Int32 → Int32 → jh → Option (Int32 × jh)) (L : Nat → Int32 → Int32 → Int32 → Int32 → jh → Option (Int32 × jh)), f_X13_forkNow_h144 K L m a1 (nI x) (nI c) (nI o) (pm h m (sw s 2 n)) = L m a1 (nI x) (nI c) (if o = 0 then nm1 else nI (v 20 o)) (pm h m (sw s 2 n2))) ∧ RowV n2 (fkD v c x (o :: D)) := by
      have R1 : RowV (upd n (128 + (8 * c + o)) (nI (fre v o (decide (o = x))))) (upv (fkD v c x D) 8 (8 * c + o) (fre v o (decide (o = x)))) := by
        refine RowV_nm R W1.bd c hc ?_ ?_ ?_
        · intro j hj; exact upd_ne' _ _ _ _ (by omega)
        · intro a j hj; exact upv_ne _ _ _ _ _ _ (by omega)
        · intro y hy
          by_cases h1 : y = o
          · rw [h1, upd_eq', upv_eq]
          · rw [upd_ne' _ _ _ _ (by omega), upv_ne _ _ _ _ _ _ (by omega), R.nm c y hc hy]
      have B1 : Bd (upv (fkD v c x D) 8 (8 * c + o) (fre v o (decide (o = x)))) := Bd_up W1.bd 8 _ _ (by omega)
      have ear : ∀ n2 : Nat → Int32, n2 (256 + 14 * (8 * 0 + o) + 0) = n (256 + 14 * (8 * 0 + o) + 0) → n2 (256 + 14 * (8 * 0 + o) + 0) = if o = 0 then nm1 else nI (v 20 o) := by
        intro n2 hn2
        rw [hn2, R.ar 0 o (by decide) (by rw [show fkD v c x D (10 + 0) 0 = v 10 0 from e10]; exact ho), show fkD v c x D (20 + 0) o = v 20 o from fkD_ne _ _ _ _ _ _ (by omega) (by omega)]
      have t0 : f_X13_freeNumber m (nI o) (nI 0) (pm h m (sw s 2 n)) = some (nI (fre v o false), pm h m (sw s 2 n)) := by rw [← efr]; exact t_free R' W1 o false (by omega)
      have t1 : f_X13_freeNumber m (nI o) (nI 1) (pm h m (sw s 2 n)) = some (nI (fre v o true), pm h m (sw s 2 n)) := by rw [← efr]; exact t_free R' W1 o true (by omega)
      by_cases hf1 : 1 < fre v o (decide (o = x))
      · refine ⟨upd (upd n (128 + (8 * c + o)) (nI (fre v o (decide (o = x))))) (256 + 14 * (8 * 0 + o) + 3) (nI (fre v o (decide (o = x)))), ?_, ?_⟩
        · intro K L
          have E1 := ear (upd (upd n (128 + (8 * c + o)) (nI (fre v o (decide (o = x))))) (256 + 14 * (8 * 0 + o) + 3) (nI (fre v o (decide (o = x))))) (by rw [upd_ne' _ _ _ _ (by omega), upd_ne' _ _ _ _ (by omega)])
          unfold f_X13_forkNow_h144
          by_cases h1 : o = x
          · have hd : decide (o = x) = true := by simp [h1]
            rw [hd] at hfr hf1 E1 ⊢
            simp (discharger := omega) only [al_m, nm1_ne, al_eq, if_false, if_pos h1, not_true_eq_false, h1.symm ▸ h1]
            rw [if_neg (by simp [h1])]
            unfold f_X13_forkNow_b164 f_X13_forkNow_b203
            simp (discharger := omega) only [↓al_m, al_lit, al_add, al_mul, bd_some, pm_cV, pm_gR2, bn_0, bn_1, bn_jz, t1, al_le, wr2, st2_sw, sw_sw, sw_eq, r_processAt, r_spaceAt, r_numberAt, r_spaceOf]
            rw [if_neg (by omega), E1]
          · have hd : decide (o = x) = false := by simp [h1]
            rw [hd] at hfr hf1 E1 ⊢
            simp (discharger := omega) only [al_m, nm1_ne, al_eq, if_false]
            rw [if_pos h1]
            unfold f_X13_forkNow_b164 f_X13_forkNow_b203
            simp (discharger := omega) only [↓al_m, al_lit, al_add, al_mul, bd_some, pm_cV, pm_gR2, bn_0, bn_1, bn_jz, t0, al_le, wr2, st2_sw, sw_sw, sw_eq, r_processAt, r_spaceAt, r_numberAt, r_spaceOf]
            rw [if_neg (by omega), E1]
        · refine RowV_gv R1 B1 o (by omega) (fun j h => upd_ne' _ _ _ _ h) ?_ ?_
          · intro a j hj
            by_cases h1 : a = 8 ∧ j = 8 * c + o
            · rw [h1.1, h1.2, upv_eq, fkD_8 _ _ _ _ _ (by omega), if_pos List.mem_cons_self]
            · rw [upv_ne _ _ _ _ _ _ h1, fkD_cons _ _ _ _ _ (by omega) _ _ ⟨h1, hj⟩]
          · rw [upd_eq', fkD_50, if_pos ⟨List.mem_cons_self, hf1⟩]
      · refine ⟨upd n (128 + (8 * c + o)) (nI (fre v o (decide (o = x)))), ?_, ?_⟩
        · intro K L
          have E1 := ear (upd n (128 + (8 * c + o)) (nI (fre v o (decide (o = x))))) (by rw [upd_ne' _ _ _ _ (by omega)])
          unfold f_X13_forkNow_h144
          by_cases h1 : o = x
          · have hd : decide (o = x) = true := by simp [h1]
            rw [hd] at hfr hf1 E1 ⊢
            simp (discharger := omega) only [al_m, nm1_ne, al_eq, if_false]
            rw [if_neg (by simp [h1])]
            unfold f_X13_forkNow_b164 f_X13_forkNow_b203
            simp (discharger := omega) only [↓al_m, al_lit, al_add, al_mul, bd_some, pm_cV, pm_gR2, bn_0, bn_1, bn_jz, t1, al_le, wr2, st2_sw, sw_sw, sw_eq, r_processAt, r_spaceAt, r_numberAt, r_spaceOf]
            rw [if_pos (by omega), E1]
          · have hd : decide (o = x) = false := by simp [h1]
            rw [hd] at hfr hf1 E1 ⊢
            simp (discharger := omega) only [al_m, nm1_ne, al_eq, if_false]
            rw [if_pos h1]
            unfold f_X13_forkNow_b164 f_X13_forkNow_b203
            simp (discharger := omega) only [↓al_m, al_lit, al_add, al_mul, bd_some, pm_cV, pm_gR2, bn_0, bn_1, bn_jz, t0, al_le, wr2, st2_sw, sw_sw, sw_eq, r_processAt, r_spaceAt, r_numberAt, r_spaceOf]
            rw [if_pos (by omega), E1]
        · have e : upv (fkD v c x D) 8 (8 * c + o) (fre v o (decide (o = x))) = fkD v c x (o :: D) := by
            funext a j
            by_cases h1 : a = 8 ∧ j = 8 * c + o
            · rw [h1.1, h1.2, upv_eq, fkD_8 _ _ _ _ _ (by omega), if_pos List.mem_cons_self]
            · rw [upv_ne _ _ _ _ _ _ h1]
              by_cases h2 : a = 50 ∧ j = o
              · rw [h2.1, h2.2, fkD_50, fkD_50, if_neg (fun e => hf1 e.2), if_neg (fun e => hf1 e.2)]
              · rw [fkD_cons _ _ _ _ _ (by omega) _ _ ⟨h1, h2⟩]
          rw [← e]; exact R1
    obtain ⟨n2, E, R2⟩ := hrow
    by_cases h0 : o = 0
    · refine ⟨n2, ?_, ?_⟩
      · intro K L hL
        rw [hL, E, if_pos h0, hL]
        unfold f_X13_forkNow_h144
        rw [al_m, if_pos rfl]
      · have e : fkD v c x (ch v 0 x) = fkD v c x (o :: D) := by
          have hm : ∀ y, y ∈ ch v 0 x ↔ y ∈ o :: D := by
            intro y
            rw [hDc y, h0, ch_0]
            simp [or_comm]
          funext a j
          unfold fkD
          simp only [hm]
        rw [e]; exact R2
    · have hu := W.up0 o (by omega) ho
      obtain ⟨n', E2, R3⟩ := ih _ hu (by omega) (o :: D) n2 (f + 1) (by omega) (by
        intro y hy
        rcases List.mem_cons.mp hy with e | e
        · rw [e]; exact ⟨hu, ho⟩
        · have := hD y e; omega) (by
        intro y
        rw [hDc y, ch_s0 W (by omega) ho]
        simp only [List.mem_cons]
        constructor
        · rintro (e | e | e)
          · exact Or.inl (Or.inr e)
          · exact Or.inl (Or.inl e)
          · exact Or.inr e
        · rintro ((e | e) | e)
          · exact Or.inr (Or.inl e)
          · exact Or.inl e
          · exact Or.inr (Or.inr e)) R2
      refine ⟨n', ?_, R3⟩
      intro K L hL
      rw [hL, E, if_neg h0]
      exact E2 K L hL

theorem ch_beg {v : vw} (W : WFv v) (M : SMv v) : ∀ x, x < v 10 0 → ∀ y, y ∈ ch v 0 x → y ≠ x → v 51 y ≠ 0 := by
  intro x
  induction x using Nat.strongRecOn with
  | ind x ih =>
    intro hx y hy hne
    by_cases h0 : x = 0
    · subst h0; rw [ch_0] at hy; exact absurd (by simpa using hy) hne
    · have hu := W.up0 x (by omega) hx
      rw [ch_s0 W (by omega) hx] at hy
      rcases List.mem_cons.mp hy with e | e
      · exact absurd e hne
      · by_cases h1 : y = v 20 x
        · rw [h1]; exact M.bb x (by omega) hx
        · exact ih _ hu (by omega) y e h1
/-- a child's attributes, those below k copied -/
def cpy (v : vw) (p c k : Nat) : vw := fun a j => if a < k ∧ j = c then v a p else v a j
theorem t_fk4 {h : jh} {m : Nat} {s : ms} {v : vw} (B : Bd v) (p c : Nat) (hp : p < 16) (hc : c < 16) (hpc : p ≠ c) (a2 : Int32) : ∀ k i n f, i + k = 8 → k + 1 ≤ f → RowV n (cpy v p c i) → ∃ n', (∀ (K : Nat → Int32 → Int32 → Int32 → jh → Option (Int32 × jh)) (L : Nat → Nat → Int32 → Int32 → Int32 → Int32 → jh → Option (Int32 × jh)), (∀ f, L (f + 1) = f_X13_forkNow_h255 K (L f)) → L f m (nI p) a2 (nI c) (nI i) (pm h m (sw s 2 n)) = K m (nI p) a2 (nI c) (pm h m (sw s 2 n'))) ∧ RowV n' (cpy v p c 8) := by
  intro k
  induction k with
  | zero =>
    intro i n f hi hf R
    obtain ⟨f, rfl⟩ : ∃ g, f = g + 1 := ⟨f - 1, by omega⟩
    refine ⟨n, ?_, by rw [show 8 = i by omega]; exact R⟩
    intro K L hL
    rw [hL]
    unfold f_X13_forkNow_h255
    simp (discharger := omega) only [↓al_m, al_lit, al_add, al_mul, bd_some, pm_cV, pm_gR2, bn_0, bn_1, bn_jz, al_le]
    rw [if_pos (by omega)]
  | succ k ih =>
    intro i n f hi hf R
    obtain ⟨f, rfl⟩ : ∃ g, f = g + 1 := ⟨f - 1, by omega⟩
    have R' : RowV ((sw s 2 n) 2) (cpy v p c i) := by rw [sw_eq]; exact R
    have ep : cpy v p c i i p = v i p := by unfold cpy; rw [if_neg (by omega)]
    have Bc : Bd (cpy v p c i) := Bd_eq B (by unfold cpy; rw [if_neg (by omega)]) (by unfold cpy; rw [if_neg (by omega)]) (by unfold cpy; rw [if_neg (by omega)]) (by funext j; unfold cpy; rw [if_neg (by omega)])
    have R2 : RowV (upd n (8 * c + i) (nI (v i p))) (cpy v p c (i + 1)) := by
      refine RowV_pr R Bc c i (v i p) hc (by omega) (fun j h => upd_ne' _ _ _ _ h) (upd_eq' _ _ _) ?_ ?_
      · intro a j hj
        unfold cpy
        by_cases h1 : a < i ∧ j = c
        · rw [if_pos h1, if_pos ⟨by omega, h1.2⟩]
        · rw [if_neg h1, if_neg (by omega)]
      · unfold cpy; rw [if_pos ⟨by omega, rfl⟩]
    obtain ⟨n', E, R3⟩ := ih (i + 1) _ f (by omega) (by omega) R2
    refine ⟨n', ?_, R3⟩
    intro K L hL
    rw [hL]
    unfold f_X13_forkNow_h255
    simp (discharger := omega) only [↓al_m, al_lit, al_add, al_mul, bd_some, pm_cV, pm_gR2, bn_0, bn_1, bn_jz, al_le, v_of R', ep, wr2, st2_sw, sw_sw, sw_eq, r_processAt, r_spaceAt, r_numberAt]
    rw [if_neg (by omega)]
    exact E K L hL
def frk (v : vw) (p c : Nat) : vw := fun a j =>
  if a < 8 ∧ j = c then (if a = 1 then p else if a = 2 then v 5 p else v a p)
  else if a = 8 ∧ 8 * c ≤ j ∧ j < 8 * c + 8 then (if (j - 8 * c) ∈ ch v 0 (v 5 p) then fre v (j - 8 * c) (decide (j - 8 * c = v 5 p)) else 0)
  else if a = 50 ∧ j ∈ ch v 0 (v 5 p) ∧ 1 < fre v j (decide (j = v 5 p)) then fre v j (decide (j = v 5 p))
  else if a = 51 ∧ j = v 5 p ∧ v 51 (v 5 p) = 0 then c + 2 else v a j
def fkc (v : vw) : Nat := ff (fun q => decide (v 0 q ≠ 1)) 16 0
def dFrk (v : vw) (p : Nat) : Int32 × vw :=
  if fkc v < 16 ∧ v 51 (v 5 p) ≠ 1 ∧ fkC v (v 5 p) (ch v 0 (v 5 p)) = true then (nI (fkc v), frk v p (fkc v)) else (nm1, v)
theorem t_fk0 {h : jh} {m : Nat} {s : ms} {v : vw} (R : RowV (s 2) v) (W : WFv v) (a1 a2 : Int32) (K : Nat → Int32 → Int32 → Int32 → jh → Option (Int32 × jh)) (L : Nat → Nat → Int32 → Int32 → Int32 → jh → Option (Int32 × jh)) (hL : ∀ f, L (f + 1) = f_X13_forkNow_h9 K (L f)) : ∀ k i f, i + k = 16 → k + 1 ≤ f → L f m a1 a2 (nI i) (pm h m s) = K m a1 a2 (nI (ff (fun q => decide (v 0 q ≠ 1)) k i)) (pm h m s) := by
  intro k
  induction k with
  | zero =>
    intro i f hi hf
    obtain ⟨f, rfl⟩ : ∃ g, f = g + 1 := ⟨f - 1, by omega⟩
    rw [hL]
    unfold f_X13_forkNow_h9
    simp (discharger := omega) only [↓al_m, al_lit, al_add, al_mul, bd_some, pm_cV, pm_gR2, bn_0, bn_1, bn_jz, al_le]
    rw [if_pos (by omega), ff]
  | succ k ih =>
    intro i f hi hf
    obtain ⟨f, rfl⟩ : ∃ g, f = g + 1 := ⟨f - 1, by omega⟩
    have h1 := W.th i (by omega)
    rw [hL]
    unfold f_X13_forkNow_h9
    simp (discharger := omega) only [↓al_m, al_lit, al_add, al_mul, bd_some, pm_cV, pm_gR2, bn_0, bn_1, bn_jz, v_of R, v_nm R, v_ct0 R, v_ct1 R, v_ct2 R, v_ar0 R W, v_ar1 R W, v_ar2 R W, v_dp0 R W, v_dp1 R W, v_dp2 R W, v_kp0 R W, v_kp1 R W, v_kp2 R W, v_gv R W, v_bg R W, v_rn R W, v_sh R W, al_le, al_eq]
    rw [if_neg (by omega), ff, ih (i + 1) f (by omega) (by omega)]
    by_cases h2 : v 0 i = 1 <;> simp [h2]
/-- what is done after it is known that the child can be -/
theorem t_fk5 {h : jh} {m : Nat} {s : ms} {v : vw} (R : RowV (s 2) v) (W : WFv v) (M : SMv v) (p c : Nat) (hp : p < 16) (hp1 : v 0 p = 1) (hc : c < 16) (hc0 : v 0 c ≠ 1) : ∃ n', RowV n' (frk v p c) ∧
    jlp5 (f_X13_forkNow_h116 (fun y34 y35 y36 y37 h33 =>
      jlp5 (f_X13_forkNow_h144 (fun y54 y55 y56 y57 h53 =>
      cV h53 y54 11 (f_X13_spaceOf y54 0 y56 5 h53) fun v58 h59 =>
      (if ¬ v58 = 0 then
      jlp5 (f_X13_forkNow_h255 (fun y69 y70 y71 y72 h68 =>
      gR h68 y69 11 2 fun v73 =>
      bd (f_X13_processAt y72 1 h68) fun v74 h75 =>
      sI h75 v73 v74 y70 fun h76 =>
      gR h76 y69 11 2 fun v77 =>
      bd (f_X13_processAt y72 2 h76) fun v78 h79 =>
      sI h79 v77 v78 y71 fun h80 =>
      some (y72, h80))) jfu y54 y55 y56 y57 0 h59
      else
      gR h59 y54 11 2 fun v81 =>
      bd (f_X13_spaceAt 0 y56 h59) fun v82 h83 =>
      sI h83 v81 (v82 + 5) 1 fun h84 =>
      gR h84 y54 11 2 fun v85 =>
      bd (f_X13_spaceAt 0 y56 h84) fun v86 h87 =>
      sI h87 v85 (v86 + 4) y57 fun h88 =>
      jlp5 (f_X13_forkNow_h255 (fun y90 y91 y92 y93 h89 =>
      gR h89 y90 11 2 fun v94 =>
      bd (f_X13_processAt y93 1 h89) fun v95 h96 =>
      sI h96 v94 v95 y91 fun h97 =>
      gR h97 y90 11 2 fun v98 =>
      bd (f_X13_processAt y93 2 h97) fun v99 h100 =>
      sI h100 v98 v99 y92 fun h101 =>
      some (y93, h101))) jfu y54 y55 y56 y57 0 h88))) jfu y34 y35 y36 y37 y36 h33)) jfu m (nI p) (nI (v 5 p)) (nI c) 0 (pm h m s) = some (nI c, pm h m (sw s 2 n')) := by
  have hc8 := W.c0
  have hq := W.pr p hp
  have hpc : p ≠ c := fun e => hc0 (e ▸ hp1)
  obtain ⟨f, hf⟩ := jfu_s
  have hx : v 5 p < v 10 0 := hq.2.2.2.2.1
  have R0 := RowV_zn R W.bd c (v 5 p) hc
  obtain ⟨n3, E3, R3⟩ := t_fk3 (h := h) (m := m) (s := s) W c (v 5 p) hc hc0 hx (ch_beg W M _ hx) (nI p) (v 5 p) hx [] _ jfu (by omega) (fun y hy => by simp at hy) (fun y => by simp) R0
  have W3 : WFv (fkD v c (v 5 p) (ch v 0 (v 5 p))) := WFv_fkD W c (v 5 p) _ hx (fun y hy => by have := ch_lt W (by decide) (v 5 p) hx hy; omega) (ch_beg W M _ hx)
  have E1 := fun K => t_fk2 (h := h) (m := m) (s := s) c hc (nI p) (nI (v 5 p)) K (jlp5 (f_X13_forkNow_h116 K)) (fun _ => rfl) 8 0 (s 2) jfu (by omega) (by omega)
  simp only [sw_id] at E1
  have g51 : ∀ y, fkD v c (v 5 p) (ch v 0 (v 5 p)) 51 y = v 51 y := fun y => fkD_ne _ _ _ _ _ _ (by omega) (by omega)
  -- the last two loops on a row of this state
  have fin : ∀ n v4, RowV n v4 → Bd v4 → (∀ a j, v4 a j = if a = 51 ∧ j = v 5 p ∧ v 51 (v 5 p) = 0 then c + 2 else fkD v c (v 5 p) (ch v 0 (v 5 p)) a j) → ∃ n', RowV n' (frk v p c) ∧ jlp5 (f_X13_forkNow_h255 (fun y69 y70 y71 y72 h68 =>
      gR h68 y69 11 2 fun v73 =>
      bd (f_X13_processAt y72 1 h68) fun v74 h75 =>
      sI h75 v73 v74 y70 fun h76 =>
      gR h76 y69 11 2 fun v77 =>
      bd (f_X13_processAt y72 2 h76) fun v78 h79 =>
      sI h79 v77 v78 y71 fun h80 =>
      some (y72, h80))) jfu m (nI p) (nI (v 5 p)) (nI c) 0 (pm h m (sw s 2 n)) = some (nI c, pm h m (sw s 2 n')) := by
    intro n v4 R4 B4 h4
    have e0 : cpy v4 p c 0 = v4 := by funext a j; unfold cpy; rw [if_neg (by omega)]
    obtain ⟨n5, E5, R5⟩ := t_fk4 (h := h) (m := m) (s := s) B4 p c hp hc hpc (nI (v 5 p)) 8 0 n jfu (by omega) (by omega) (by rw [e0]; exact R4)
    have B5 : Bd (cpy v4 p c 8) := Bd_eq B4 (by unfold cpy; rw [if_neg (by omega)]) (by unfold cpy; rw [if_neg (by omega)]) (by unfold cpy; rw [if_neg (by omega)]) (by funext j; unfold cpy; rw [if_neg (by omega)])
    refine ⟨upd (upd n5 (8 * c + 1) (nI p)) (8 * c + 2) (nI (v 5 p)), ?_, ?_⟩
    · have R6 := RowV_pr' (RowV_pr' R5 B5 c 1 p hc (by omega)) (Bd_up B5 1 _ _ (by omega)) c 2 (v 5 p) hc (by omega)
      have e : upv (upv (cpy v4 p c 8) 1 c p) 2 c (v 5 p) = frk v p c := by
        funext a j
        unfold upv cpy frk
        by_cases c1 : a < 8 ∧ j = c
        · rw [if_pos c1, if_pos c1]
          have ea : v4 a p = v a p := by rw [h4, if_neg (by omega), fkD_ne _ _ _ _ _ _ (by omega) (by omega)]
          by_cases c2 : a = 2
          · rw [if_pos ⟨c2, c1.2⟩, if_neg (by omega), if_pos c2]
          · rw [if_neg (by omega)]
            by_cases c3 : a = 1
            · rw [if_pos ⟨c3, c1.2⟩, if_pos c3]
            · rw [if_neg (by omega), if_neg c3, if_neg c2, ea]
        · rw [if_neg (by omega), if_neg (by omega), if_neg c1, if_neg c1, h4]
          unfold fkD
          by_cases c4 : a = 51 ∧ j = v 5 p ∧ v 51 (v 5 p) = 0
          · rw [if_pos c4, if_neg (by omega), if_neg (by omega), if_pos c4]
          · rw [if_neg c4, if_neg c4]
      rw [← e]; exact R6
    · have := E5 (fun y69 y70 y71 y72 h68 =>
        gR h68 y69 11 2 fun v73 =>
        bd (f_X13_processAt y72 1 h68) fun v74 h75 =>
        sI h75 v73 v74 y70 fun h76 =>
        gR h76 y69 11 2 fun v77 =>
        bd (f_X13_processAt y72 2 h76) fun v78 h79 =>
        sI h79 v77 v78 y71 fun h80 =>
        some (y72, h80)) (jlp5 (f_X13_forkNow_h255 _)) (fun _ => rfl)
      refine Eq.trans this ?_
      simp (discharger := omega) only [↓al_m, al_lit, al_add, al_mul, bd_some, pm_cV, pm_gR2, bn_0, bn_1, bn_jz, wr2, st2_sw, sw_sw, sw_eq, r_processAt, r_spaceAt, r_numberAt]
  have b3 := R3.bg (v 5 p) (by rw [fkD_ne _ _ _ _ _ _ (by omega) (by omega)]; exact hx)
  rw [g51] at b3
  by_cases h0 : v 51 (v 5 p) = 0
  · have R4 : RowV (upd (upd n3 (256 + 14 * (8 * 0 + v 5 p) + 5) (nI 1)) (256 + 14 * (8 * 0 + v 5 p) + 4) (nI c)) (upv (fkD v c (v 5 p) (ch v 0 (v 5 p))) 51 (v 5 p) (c + 2)) := by
      refine RowV_it R3 W3.bd (v 5 p) (by omega) ?_ (fun a j h => upv_ne _ _ _ _ _ _ h) (by rw [upv_eq]; omega) ?_ ?_
      · intro j hj; rw [upd_ne' _ _ _ _ (by omega), upd_ne' _ _ _ _ (by omega)]
      · rw [upd_ne' _ _ _ _ (by omega), upd_eq']
      · rw [upd_eq', upv_eq, if_neg (by omega), Nat.add_sub_cancel]
    obtain ⟨n', R5, E5⟩ := fin _ _ R4 (Bd_eq W3.bd (upv_ne _ _ _ _ _ _ (by omega)) (upv_ne _ _ _ _ _ _ (by omega)) (upv_ne _ _ _ _ _ _ (by omega)) (by funext j; exact upv_ne _ _ _ _ _ _ (by omega))) (by
      intro a j
      unfold upv
      by_cases c1 : a = 51 ∧ j = v 5 p
      · rw [if_pos c1, if_pos ⟨c1.1, c1.2, h0⟩]
      · rw [if_neg c1, if_neg (by omega)])
    refine ⟨n', R5, ?_⟩
    refine (E1 _).trans ?_
    refine (E3 _ (jlp5 (f_X13_forkNow_h144 _)) (fun _ => rfl)).trans ?_
    have es : f_X13_spaceOf m 0 (nI (v 5 p)) 5 (pm h m (sw s 2 n3)) = some (nI 0, pm h m (sw s 2 n3)) := by
      have := r_spaceOf (h := h) (m := m) (s := sw s 2 n3) 0 (v 5 p) 5 (by omega)
      rw [sw_eq, b3, if_pos h0] at this
      exact this
    rw [pm_cV, es, bd_some, if_neg (by simp [al_0])]
    simp (discharger := omega) only [pm_gR2, bd_some, al_0, al_1]
    rw [r_spaceAt, bd_some, show nI (256 + 14 * (8 * 0 + v 5 p)) + 5 = nI (256 + 14 * (8 * 0 + v 5 p) + 5) from al_add _ 5, wr2 _ _ _ _ _ _ (by omega), st2_sw, sw_sw, sw_eq, pm_gR2, r_spaceAt, bd_some, show nI (256 + 14 * (8 * 0 + v 5 p)) + 4 = nI (256 + 14 * (8 * 0 + v 5 p) + 4) from al_add _ 4, wr2 _ _ _ _ _ _ (by omega), st2_sw, sw_sw, sw_eq]
    exact E5
  · obtain ⟨n', R5, E5⟩ := fin n3 _ R3 W3.bd (by intro a j; rw [if_neg (fun e => h0 e.2.2)])
    refine ⟨n', R5, ?_⟩
    refine (E1 _).trans ?_
    refine (E3 _ (jlp5 (f_X13_forkNow_h144 _)) (fun _ => rfl)).trans ?_
    have es : f_X13_spaceOf m 0 (nI (v 5 p)) 5 (pm h m (sw s 2 n3)) = some (nI 1, pm h m (sw s 2 n3)) := by
      have := r_spaceOf (h := h) (m := m) (s := sw s 2 n3) 0 (v 5 p) 5 (by omega)
      rw [sw_eq, b3, if_neg h0] at this
      exact this
    rw [pm_cV, es, bd_some, if_pos (by decide)]
    exact E5
