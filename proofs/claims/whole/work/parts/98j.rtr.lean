/-! the reference: what acts by call, undo, notes, images do to its state -/
theorem RowV_cg {n n' : Nat → Int32} {v : vw} (R : RowV n v) (B : Bd v) (E : ∀ j, j < 595 → n' j = n j) : RowV n' v := by
  obtain ⟨b0, b1, b2, b3, b4⟩ := B
  refine ⟨?_, ?_, ?_, ?_, ?_, ?_, ?_, ?_, ?_, ?_, ?_, ?_, ?_, ?_, ?_⟩
  · intro p k hp hk; rw [E _ (by omega)]; exact R.pr p k hp hk
  · intro p x hp hx; rw [E _ (by omega)]; exact R.nm p x hp hx
  · intro k hk; rw [E _ (by omega)]; exact R.ct k hk
  · intro k x hk hx; have := b0 k hk; rw [E _ (by omega)]; exact R.ar k x hk hx
  · intro k x hk hx; have := b0 k hk; rw [E _ (by omega)]; exact R.dp k x hk hx
  · intro k x hk hx; have := b0 k hk; rw [E _ (by omega)]; exact R.kp k x hk hx
  · intro x hx; rw [E _ (by omega)]; exact R.gv x hx
  · intro x hx; rw [E _ (by omega)]; exact R.bg x hx
  · intro x hx h0; rw [E _ (by omega)]; exact R.it x hx h0
  · intro x hx; rw [E _ (by omega)]; exact R.rn x hx
  · intro x r hx hr; have := b4 x hx; rw [E _ (by omega)]; exact R.ri x r hx hr
  · intro x r hx hr; have := b4 x hx; rw [E _ (by omega)]; exact R.ro x r hx hr
  · intro x r hx hr; have := b4 x hx; rw [E _ (by omega)]; exact R.rm x r hx hr
  · intro x hx; rw [E _ (by omega)]; exact R.sh x hx
  · intro x i hx hi; rw [E _ (by omega)]; exact R.tg x i hx hi
def RImg (s : ms) (TI : ta) : Prop := RowV (s 30) TI.1 ∧ s 28 0 = nI TI.2.1 ∧ (∀ i, i < TI.2.1 → RowV (fun j => s 31 (595 * i + j)) (TI.2.2.1 i)) ∧ s 29 0 = nI TI.2.2.2.1 ∧ (∀ j, j < TI.2.2.2.1 → s 32 j = TI.2.2.2.2 0 j ∧ s 33 j = TI.2.2.2.2 1 j ∧ s 34 j = TI.2.2.2.2 2 j) ∧ ∀ j, j < 3 → s 35 j = TI.2.2.2.2 3 j
def RS (s : ms) (T : ta) (hi : Bool) (TI : ta) (fl : Int32) (n : Nat) (tp : Nat → Int32) : Prop :=
  (RowV (s 2) T.1) ∧
  (s 18 0 = nI T.2.1) ∧
  (∀ i, i < T.2.1 → RowV (fun j => s 19 (595 * i + j)) (T.2.2.1 i)) ∧
  (s 22 0 = nI T.2.2.2.1) ∧
  (∀ j, j < T.2.2.2.1 → s 23 j = T.2.2.2.2 0 j ∧ s 24 j = T.2.2.2.2 1 j ∧ s 25 j = T.2.2.2.2 2 j) ∧
  (∀ j, j < 3 → s 3 j = T.2.2.2.2 3 j) ∧
  (s 27 0 = bn hi) ∧
  (hi = true → RImg s TI) ∧
  (s 14 0 = fl) ∧
  (s 5 0 = nI n) ∧
  (∀ j, j < n → s 4 j = tp j)
theorem RS.row {s : ms} {T : ta} {hi : Bool} {TI : ta} {fl : Int32} {n : Nat} {tp : Nat → Int32} (R : RS s T hi TI fl n tp) : RowV (s 2) T.1 := R.1
theorem RS.ac {s : ms} {T : ta} {hi : Bool} {TI : ta} {fl : Int32} {n : Nat} {tp : Nat → Int32} (R : RS s T hi TI fl n tp) : s 18 0 = nI T.2.1 := R.2.1
theorem RS.pa {s : ms} {T : ta} {hi : Bool} {TI : ta} {fl : Int32} {n : Nat} {tp : Nat → Int32} (R : RS s T hi TI fl n tp) : ∀ i, i < T.2.1 → RowV (fun j => s 19 (595 * i + j)) (T.2.2.1 i) := R.2.2.1
theorem RS.nn {s : ms} {T : ta} {hi : Bool} {TI : ta} {fl : Int32} {n : Nat} {tp : Nat → Int32} (R : RS s T hi TI fl n tp) : s 22 0 = nI T.2.2.2.1 := R.2.2.2.1
theorem RS.nt {s : ms} {T : ta} {hi : Bool} {TI : ta} {fl : Int32} {n : Nat} {tp : Nat → Int32} (R : RS s T hi TI fl n tp) : ∀ j, j < T.2.2.2.1 → s 23 j = T.2.2.2.2 0 j ∧ s 24 j = T.2.2.2.2 1 j ∧ s 25 j = T.2.2.2.2 2 j := R.2.2.2.2.1
theorem RS.st {s : ms} {T : ta} {hi : Bool} {TI : ta} {fl : Int32} {n : Nat} {tp : Nat → Int32} (R : RS s T hi TI fl n tp) : ∀ j, j < 3 → s 3 j = T.2.2.2.2 3 j := R.2.2.2.2.2.1
theorem RS.ih {s : ms} {T : ta} {hi : Bool} {TI : ta} {fl : Int32} {n : Nat} {tp : Nat → Int32} (R : RS s T hi TI fl n tp) : s 27 0 = bn hi := R.2.2.2.2.2.2.1
theorem RS.im {s : ms} {T : ta} {hi : Bool} {TI : ta} {fl : Int32} {n : Nat} {tp : Nat → Int32} (R : RS s T hi TI fl n tp) : hi = true → RImg s TI := R.2.2.2.2.2.2.2.1
theorem RS.fa {s : ms} {T : ta} {hi : Bool} {TI : ta} {fl : Int32} {n : Nat} {tp : Nat → Int32} (R : RS s T hi TI fl n tp) : s 14 0 = fl := R.2.2.2.2.2.2.2.2.1
theorem RS.tn {s : ms} {T : ta} {hi : Bool} {TI : ta} {fl : Int32} {n : Nat} {tp : Nat → Int32} (R : RS s T hi TI fl n tp) : s 5 0 = nI n := R.2.2.2.2.2.2.2.2.2.1
theorem RS.tt {s : ms} {T : ta} {hi : Bool} {TI : ta} {fl : Int32} {n : Nat} {tp : Nat → Int32} (R : RS s T hi TI fl n tp) : ∀ j, j < n → s 4 j = tp j := R.2.2.2.2.2.2.2.2.2.2
theorem RImg_k {s s' : ms} {TI : ta} (h : RImg s TI) (E : ∀ k, 28 ≤ k → s' k = s k) : RImg s' TI := by
  unfold RImg
  rw [E 30 (by decide), E 28 (by decide), E 31 (by decide), E 29 (by decide), E 32 (by decide), E 33 (by decide), E 34 (by decide), E 35 (by decide)]
  exact h
theorem RS_eq {s s' : ms} {T : ta} {hi : Bool} {TI : ta} {fl : Int32} {n : Nat} {tp : Nat → Int32} (R : RS s T hi TI fl n tp) (W : WFv T.1) (E : SEq s s') : RS s' T hi TI fl n tp := by
  have e : ∀ k, k ≠ 1 → k ≠ 2 → k ≠ 17 → k ≠ 20 → k ≠ 21 → k ≠ 26 → s' k = s k := E.2
  refine ⟨RowV_cg R.row W.bd E.1, ?_, ?_, ?_, ?_, ?_, ?_, ?_, ?_, ?_, ?_⟩
  · rw [e 18 (by decide) (by decide) (by decide) (by decide) (by decide) (by decide)]; exact R.ac
  · rw [e 19 (by decide) (by decide) (by decide) (by decide) (by decide) (by decide)]; exact R.pa
  · rw [e 22 (by decide) (by decide) (by decide) (by decide) (by decide) (by decide)]; exact R.nn
  · rw [e 23 (by decide) (by decide) (by decide) (by decide) (by decide) (by decide), e 24 (by decide) (by decide) (by decide) (by decide) (by decide) (by decide), e 25 (by decide) (by decide) (by decide) (by decide) (by decide) (by decide)]; exact R.nt
  · rw [e 3 (by decide) (by decide) (by decide) (by decide) (by decide) (by decide)]; exact R.st
  · rw [e 27 (by decide) (by decide) (by decide) (by decide) (by decide) (by decide)]; exact R.ih
  · intro h; exact RImg_k (R.im h) (fun k hk => e k (by omega) (by omega) (by omega) (by omega) (by omega) (by omega))
  · rw [e 14 (by decide) (by decide) (by decide) (by decide) (by decide) (by decide)]; exact R.fa
  · rw [e 5 (by decide) (by decide) (by decide) (by decide) (by decide) (by decide)]; exact R.tn
  · rw [e 4 (by decide) (by decide) (by decide) (by decide) (by decide) (by decide)]; exact R.tt
/-- arrays copied -/
theorem wr_same {H : jh} {a : Nat} {c : jc} (e : H.2.2 a = c) : jv_wr H a c = H := by
  refine Prod.ext rfl (Prod.ext rfl (funext fun q => ?_))
  show (if q = a then c else H.2.2 q) = _
  by_cases h : q = a
  · rw [if_pos h, h, e]
  · rw [if_neg h]
theorem cpTo_l {H : jh} {a b n k : Nat} {g : Nat → Int32} (e2 : H.2.2 b = jI k g) (hab : b ≠ a) (hn : n ≤ k) (hk : k < 30000) (L : Nat → Nat → Nat → Int32 → jh → Option (Unit × jh)) (hL : ∀ f, L (f + 1) = f_X13_copyTo_h2 (fun h5 => some ((), h5)) (L f)) : ∀ c i f (r : Nat → Int32), i + c = n → c + 1 ≤ f → ∃ r', L f a b (nI i) (jv_wr H a (jI n r)) = some ((), jv_wr H a (jI n r')) ∧ (∀ j, i ≤ j → j < n → r' j = g j) ∧ ∀ j, j < i → r' j = r j := by
  intro c
  induction c with
  | zero =>
    intro i f r hi hf
    obtain ⟨f, rfl⟩ : ∃ g, f = g + 1 := ⟨f - 1, by omega⟩
    refine ⟨r, ?_, fun j h1 h2 => by omega, fun _ _ => rfl⟩
    rw [hL]
    unfold f_X13_copyTo_h2
    rw [lnI_of (wr_at _ _ _), if_pos (by rw [al_le (by omega) (by omega)]; omega)]
  | succ c ih =>
    intro i f r hi hf
    obtain ⟨f, rfl⟩ : ∃ g, f = g + 1 := ⟨f - 1, by omega⟩
    obtain ⟨r', e1, e3, e4⟩ := ih (i + 1) f (upd r i (g i)) (by omega) (by omega)
    refine ⟨r', ?_, ?_, ?_⟩
    · rw [hL]
      unfold f_X13_copyTo_h2
      rw [lnI_of (wr_at _ _ _), if_neg (by rw [al_le (by omega) (by omega)]; omega), aI_of (by rw [wr_ne _ _ _ _ hab]; exact e2) (by omega) (by omega), sI_of (wr_at _ _ _) (by omega) (by omega), wr_wr, show nI i + 1 = nI (i + 1) from al_add i 1]
      exact e1
    · intro j h1 h2
      by_cases e : j = i
      · rw [e4 j (by omega), e]; exact if_pos rfl
      · exact e3 j (by omega) h2
    · intro j h1
      rw [e4 j (by omega)]; exact if_neg (by omega)
theorem cpTo {H : jh} {a b n k : Nat} {f g : Nat → Int32} (e1 : H.2.2 a = jI n f) (e2 : H.2.2 b = jI k g) (hab : b ≠ a) (hn : n ≤ k) (hk : k < 25000) : ∃ r', f_X13_copyTo a b H = some ((), jv_wr H a (jI n r')) ∧ ∀ j, j < n → r' j = g j := by
  obtain ⟨f0, hf0⟩ := jfu_s
  obtain ⟨r', g1, g2, -⟩ := cpTo_l e2 hab hn (by omega) (jlp3 (f_X13_copyTo_h2 (fun h5 => some ((), h5)))) (fun _ => rfl) n 0 jfu f (by omega) (by omega)
  rw [wr_same e1] at g1
  exact ⟨r', g1, fun j hj => g2 j (Nat.zero_le _) hj⟩
theorem pm_w2 (h : jh) (m : Nat) (s : ms) (r : Nat → Int32) : jv_wr (pm h m s) (m + 2) (jI 595 r) = pm h m (sw s 2 r) := by
  refine pm_wr h m s (sw s 2 r) 2 _ (by decide) (by show jI 595 (sw s 2 r 2) = _; rw [sw_eq]) (fun e he hne => ?_)
  have : e = 0 ∨ e = 1 ∨ e = 2 ∨ e = 3 ∨ e = 4 ∨ e = 5 ∨ e = 6 ∨ e = 7 ∨ e = 8 ∨ e = 9 ∨ e = 10 ∨ e = 11 ∨ e = 12 ∨ e = 13 ∨ e = 14 ∨ e = 15 ∨ e = 16 ∨ e = 17 ∨ e = 18 := by omega
  rcases this with rfl | rfl | rfl | rfl | rfl | rfl | rfl | rfl | rfl | rfl | rfl | rfl | rfl | rfl | rfl | rfl | rfl | rfl | rfl <;> first | exact absurd rfl hne | rfl | (simp only [mc]; rw [sw_ne _ _ _ _ (by decide)]; done) | (simp [mc, mo, sw]; done)
theorem pm_w3 (h : jh) (m : Nat) (s : ms) (r : Nat → Int32) : jv_wr (pm h m s) (m + 3) (jI 3 r) = pm h m (sw s 3 r) := by
  refine pm_wr h m s (sw s 3 r) 3 _ (by decide) (by show jI 3 (sw s 3 r 3) = _; rw [sw_eq]) (fun e he hne => ?_)
  have : e = 0 ∨ e = 1 ∨ e = 2 ∨ e = 3 ∨ e = 4 ∨ e = 5 ∨ e = 6 ∨ e = 7 ∨ e = 8 ∨ e = 9 ∨ e = 10 ∨ e = 11 ∨ e = 12 ∨ e = 13 ∨ e = 14 ∨ e = 15 ∨ e = 16 ∨ e = 17 ∨ e = 18 := by omega
  rcases this with rfl | rfl | rfl | rfl | rfl | rfl | rfl | rfl | rfl | rfl | rfl | rfl | rfl | rfl | rfl | rfl | rfl | rfl | rfl <;> first | exact absurd rfl hne | rfl | (simp only [mc]; rw [sw_ne _ _ _ _ (by decide)]; done) | (simp [mc, mo, sw]; done)
theorem pm_w7 (h : jh) (m : Nat) (s : ms) (r : Nat → Int32) : jv_wr (pm h m s) (m + 7) (jI 23800 r) = pm h m (sw s 19 r) := by
  refine pm_wr h m s (sw s 19 r) 7 _ (by decide) (by show jI 23800 (sw s 19 r 19) = _; rw [sw_eq]) (fun e he hne => ?_)
  have : e = 0 ∨ e = 1 ∨ e = 2 ∨ e = 3 ∨ e = 4 ∨ e = 5 ∨ e = 6 ∨ e = 7 ∨ e = 8 ∨ e = 9 ∨ e = 10 ∨ e = 11 ∨ e = 12 ∨ e = 13 ∨ e = 14 ∨ e = 15 ∨ e = 16 ∨ e = 17 ∨ e = 18 := by omega
  rcases this with rfl | rfl | rfl | rfl | rfl | rfl | rfl | rfl | rfl | rfl | rfl | rfl | rfl | rfl | rfl | rfl | rfl | rfl | rfl <;> first | exact absurd rfl hne | rfl | (simp only [mc]; rw [sw_ne _ _ _ _ (by decide)]; done) | (simp [mc, mo, sw]; done)
theorem pm_w8 (h : jh) (m : Nat) (s : ms) (r : Nat → Int32) : jv_wr (pm h m s) (m + 8) (jI 595 r) = pm h m (sw s 20 r) := by
  refine pm_wr h m s (sw s 20 r) 8 _ (by decide) (by show jI 595 (sw s 20 r 20) = _; rw [sw_eq]) (fun e he hne => ?_)
  have : e = 0 ∨ e = 1 ∨ e = 2 ∨ e = 3 ∨ e = 4 ∨ e = 5 ∨ e = 6 ∨ e = 7 ∨ e = 8 ∨ e = 9 ∨ e = 10 ∨ e = 11 ∨ e = 12 ∨ e = 13 ∨ e = 14 ∨ e = 15 ∨ e = 16 ∨ e = 17 ∨ e = 18 := by omega
  rcases this with rfl | rfl | rfl | rfl | rfl | rfl | rfl | rfl | rfl | rfl | rfl | rfl | rfl | rfl | rfl | rfl | rfl | rfl | rfl <;> first | exact absurd rfl hne | rfl | (simp only [mc]; rw [sw_ne _ _ _ _ (by decide)]; done) | (simp [mc, mo, sw]; done)
theorem pm_w10 (h : jh) (m : Nat) (s : ms) (r : Nat → Int32) : jv_wr (pm h m s) (m + 10) (jI 8 r) = pm h m (sw s 23 r) := by
  refine pm_wr h m s (sw s 23 r) 10 _ (by decide) (by show jI 8 (sw s 23 r 23) = _; rw [sw_eq]) (fun e he hne => ?_)
  have : e = 0 ∨ e = 1 ∨ e = 2 ∨ e = 3 ∨ e = 4 ∨ e = 5 ∨ e = 6 ∨ e = 7 ∨ e = 8 ∨ e = 9 ∨ e = 10 ∨ e = 11 ∨ e = 12 ∨ e = 13 ∨ e = 14 ∨ e = 15 ∨ e = 16 ∨ e = 17 ∨ e = 18 := by omega
  rcases this with rfl | rfl | rfl | rfl | rfl | rfl | rfl | rfl | rfl | rfl | rfl | rfl | rfl | rfl | rfl | rfl | rfl | rfl | rfl <;> first | exact absurd rfl hne | rfl | (simp only [mc]; rw [sw_ne _ _ _ _ (by decide)]; done) | (simp [mc, mo, sw]; done)
theorem pm_w11 (h : jh) (m : Nat) (s : ms) (r : Nat → Int32) : jv_wr (pm h m s) (m + 11) (jI 8 r) = pm h m (sw s 24 r) := by
  refine pm_wr h m s (sw s 24 r) 11 _ (by decide) (by show jI 8 (sw s 24 r 24) = _; rw [sw_eq]) (fun e he hne => ?_)
  have : e = 0 ∨ e = 1 ∨ e = 2 ∨ e = 3 ∨ e = 4 ∨ e = 5 ∨ e = 6 ∨ e = 7 ∨ e = 8 ∨ e = 9 ∨ e = 10 ∨ e = 11 ∨ e = 12 ∨ e = 13 ∨ e = 14 ∨ e = 15 ∨ e = 16 ∨ e = 17 ∨ e = 18 := by omega
  rcases this with rfl | rfl | rfl | rfl | rfl | rfl | rfl | rfl | rfl | rfl | rfl | rfl | rfl | rfl | rfl | rfl | rfl | rfl | rfl <;> first | exact absurd rfl hne | rfl | (simp only [mc]; rw [sw_ne _ _ _ _ (by decide)]; done) | (simp [mc, mo, sw]; done)
theorem pm_w12 (h : jh) (m : Nat) (s : ms) (r : Nat → Int32) : jv_wr (pm h m s) (m + 12) (jI 8 r) = pm h m (sw s 25 r) := by
  refine pm_wr h m s (sw s 25 r) 12 _ (by decide) (by show jI 8 (sw s 25 r 25) = _; rw [sw_eq]) (fun e he hne => ?_)
  have : e = 0 ∨ e = 1 ∨ e = 2 ∨ e = 3 ∨ e = 4 ∨ e = 5 ∨ e = 6 ∨ e = 7 ∨ e = 8 ∨ e = 9 ∨ e = 10 ∨ e = 11 ∨ e = 12 ∨ e = 13 ∨ e = 14 ∨ e = 15 ∨ e = 16 ∨ e = 17 ∨ e = 18 := by omega
  rcases this with rfl | rfl | rfl | rfl | rfl | rfl | rfl | rfl | rfl | rfl | rfl | rfl | rfl | rfl | rfl | rfl | rfl | rfl | rfl <;> first | exact absurd rfl hne | rfl | (simp only [mc]; rw [sw_ne _ _ _ _ (by decide)]; done) | (simp [mc, mo, sw]; done)
theorem pm_w13 (h : jh) (m : Nat) (s : ms) (r : Nat → Int32) : jv_wr (pm h m s) (m + 13) (jI 595 r) = pm h m (sw s 30 r) := by
  refine pm_wr h m s (sw s 30 r) 13 _ (by decide) (by show jI 595 (sw s 30 r 30) = _; rw [sw_eq]) (fun e he hne => ?_)
  have : e = 0 ∨ e = 1 ∨ e = 2 ∨ e = 3 ∨ e = 4 ∨ e = 5 ∨ e = 6 ∨ e = 7 ∨ e = 8 ∨ e = 9 ∨ e = 10 ∨ e = 11 ∨ e = 12 ∨ e = 13 ∨ e = 14 ∨ e = 15 ∨ e = 16 ∨ e = 17 ∨ e = 18 := by omega
  rcases this with rfl | rfl | rfl | rfl | rfl | rfl | rfl | rfl | rfl | rfl | rfl | rfl | rfl | rfl | rfl | rfl | rfl | rfl | rfl <;> first | exact absurd rfl hne | rfl | (simp only [mc]; rw [sw_ne _ _ _ _ (by decide)]; done) | (simp [mc, mo, sw]; done)
theorem pm_w14 (h : jh) (m : Nat) (s : ms) (r : Nat → Int32) : jv_wr (pm h m s) (m + 14) (jI 23800 r) = pm h m (sw s 31 r) := by
  refine pm_wr h m s (sw s 31 r) 14 _ (by decide) (by show jI 23800 (sw s 31 r 31) = _; rw [sw_eq]) (fun e he hne => ?_)
  have : e = 0 ∨ e = 1 ∨ e = 2 ∨ e = 3 ∨ e = 4 ∨ e = 5 ∨ e = 6 ∨ e = 7 ∨ e = 8 ∨ e = 9 ∨ e = 10 ∨ e = 11 ∨ e = 12 ∨ e = 13 ∨ e = 14 ∨ e = 15 ∨ e = 16 ∨ e = 17 ∨ e = 18 := by omega
  rcases this with rfl | rfl | rfl | rfl | rfl | rfl | rfl | rfl | rfl | rfl | rfl | rfl | rfl | rfl | rfl | rfl | rfl | rfl | rfl <;> first | exact absurd rfl hne | rfl | (simp only [mc]; rw [sw_ne _ _ _ _ (by decide)]; done) | (simp [mc, mo, sw]; done)
theorem pm_w15 (h : jh) (m : Nat) (s : ms) (r : Nat → Int32) : jv_wr (pm h m s) (m + 15) (jI 8 r) = pm h m (sw s 32 r) := by
  refine pm_wr h m s (sw s 32 r) 15 _ (by decide) (by show jI 8 (sw s 32 r 32) = _; rw [sw_eq]) (fun e he hne => ?_)
  have : e = 0 ∨ e = 1 ∨ e = 2 ∨ e = 3 ∨ e = 4 ∨ e = 5 ∨ e = 6 ∨ e = 7 ∨ e = 8 ∨ e = 9 ∨ e = 10 ∨ e = 11 ∨ e = 12 ∨ e = 13 ∨ e = 14 ∨ e = 15 ∨ e = 16 ∨ e = 17 ∨ e = 18 := by omega
  rcases this with rfl | rfl | rfl | rfl | rfl | rfl | rfl | rfl | rfl | rfl | rfl | rfl | rfl | rfl | rfl | rfl | rfl | rfl | rfl <;> first | exact absurd rfl hne | rfl | (simp only [mc]; rw [sw_ne _ _ _ _ (by decide)]; done) | (simp [mc, mo, sw]; done)
theorem pm_w16 (h : jh) (m : Nat) (s : ms) (r : Nat → Int32) : jv_wr (pm h m s) (m + 16) (jI 8 r) = pm h m (sw s 33 r) := by
  refine pm_wr h m s (sw s 33 r) 16 _ (by decide) (by show jI 8 (sw s 33 r 33) = _; rw [sw_eq]) (fun e he hne => ?_)
  have : e = 0 ∨ e = 1 ∨ e = 2 ∨ e = 3 ∨ e = 4 ∨ e = 5 ∨ e = 6 ∨ e = 7 ∨ e = 8 ∨ e = 9 ∨ e = 10 ∨ e = 11 ∨ e = 12 ∨ e = 13 ∨ e = 14 ∨ e = 15 ∨ e = 16 ∨ e = 17 ∨ e = 18 := by omega
  rcases this with rfl | rfl | rfl | rfl | rfl | rfl | rfl | rfl | rfl | rfl | rfl | rfl | rfl | rfl | rfl | rfl | rfl | rfl | rfl <;> first | exact absurd rfl hne | rfl | (simp only [mc]; rw [sw_ne _ _ _ _ (by decide)]; done) | (simp [mc, mo, sw]; done)
theorem pm_w17 (h : jh) (m : Nat) (s : ms) (r : Nat → Int32) : jv_wr (pm h m s) (m + 17) (jI 8 r) = pm h m (sw s 34 r) := by
  refine pm_wr h m s (sw s 34 r) 17 _ (by decide) (by show jI 8 (sw s 34 r 34) = _; rw [sw_eq]) (fun e he hne => ?_)
  have : e = 0 ∨ e = 1 ∨ e = 2 ∨ e = 3 ∨ e = 4 ∨ e = 5 ∨ e = 6 ∨ e = 7 ∨ e = 8 ∨ e = 9 ∨ e = 10 ∨ e = 11 ∨ e = 12 ∨ e = 13 ∨ e = 14 ∨ e = 15 ∨ e = 16 ∨ e = 17 ∨ e = 18 := by omega
  rcases this with rfl | rfl | rfl | rfl | rfl | rfl | rfl | rfl | rfl | rfl | rfl | rfl | rfl | rfl | rfl | rfl | rfl | rfl | rfl <;> first | exact absurd rfl hne | rfl | (simp only [mc]; rw [sw_ne _ _ _ _ (by decide)]; done) | (simp [mc, mo, sw]; done)
theorem pm_w18 (h : jh) (m : Nat) (s : ms) (r : Nat → Int32) : jv_wr (pm h m s) (m + 18) (jI 3 r) = pm h m (sw s 35 r) := by
  refine pm_wr h m s (sw s 35 r) 18 _ (by decide) (by show jI 3 (sw s 35 r 35) = _; rw [sw_eq]) (fun e he hne => ?_)
  have : e = 0 ∨ e = 1 ∨ e = 2 ∨ e = 3 ∨ e = 4 ∨ e = 5 ∨ e = 6 ∨ e = 7 ∨ e = 8 ∨ e = 9 ∨ e = 10 ∨ e = 11 ∨ e = 12 ∨ e = 13 ∨ e = 14 ∨ e = 15 ∨ e = 16 ∨ e = 17 ∨ e = 18 := by omega
  rcases this with rfl | rfl | rfl | rfl | rfl | rfl | rfl | rfl | rfl | rfl | rfl | rfl | rfl | rfl | rfl | rfl | rfl | rfl | rfl <;> first | exact absurd rfl hne | rfl | (simp only [mc]; rw [sw_ne _ _ _ _ (by decide)]; done) | (simp [mc, mo, sw]; done)
theorem t_cp8_2 (h : jh) (m : Nat) (s : ms) : ∃ r, f_X13_copyTo (m + 8) (m + 2) (pm h m s) = some ((), pm h m (sw s 20 r)) ∧ ∀ j, j < 595 → r j = s 2 j := by
  obtain ⟨r, e1, e2⟩ := cpTo (H := pm h m s) (a := m + 8) (b := m + 2) (n := 595) (k := 595) (f := s 20) (g := s 2) (pm_at h m s 8 (by decide)) (pm_at h m s 2 (by decide)) (by omega) (Nat.le_refl _) (by decide)
  exact ⟨r, by rw [e1, pm_w8], e2⟩
theorem t_cp2_8 (h : jh) (m : Nat) (s : ms) : ∃ r, f_X13_copyTo (m + 2) (m + 8) (pm h m s) = some ((), pm h m (sw s 2 r)) ∧ ∀ j, j < 595 → r j = s 20 j := by
  obtain ⟨r, e1, e2⟩ := cpTo (H := pm h m s) (a := m + 2) (b := m + 8) (n := 595) (k := 595) (f := s 2) (g := s 20) (pm_at h m s 2 (by decide)) (pm_at h m s 8 (by decide)) (by omega) (Nat.le_refl _) (by decide)
  exact ⟨r, by rw [e1, pm_w2], e2⟩
theorem t_cp13_2 (h : jh) (m : Nat) (s : ms) : ∃ r, f_X13_copyTo (m + 13) (m + 2) (pm h m s) = some ((), pm h m (sw s 30 r)) ∧ ∀ j, j < 595 → r j = s 2 j := by
  obtain ⟨r, e1, e2⟩ := cpTo (H := pm h m s) (a := m + 13) (b := m + 2) (n := 595) (k := 595) (f := s 30) (g := s 2) (pm_at h m s 13 (by decide)) (pm_at h m s 2 (by decide)) (by omega) (Nat.le_refl _) (by decide)
  exact ⟨r, by rw [e1, pm_w13], e2⟩
theorem t_cp14_7 (h : jh) (m : Nat) (s : ms) : ∃ r, f_X13_copyTo (m + 14) (m + 7) (pm h m s) = some ((), pm h m (sw s 31 r)) ∧ ∀ j, j < 23800 → r j = s 19 j := by
  obtain ⟨r, e1, e2⟩ := cpTo (H := pm h m s) (a := m + 14) (b := m + 7) (n := 23800) (k := 23800) (f := s 31) (g := s 19) (pm_at h m s 14 (by decide)) (pm_at h m s 7 (by decide)) (by omega) (Nat.le_refl _) (by decide)
  exact ⟨r, by rw [e1, pm_w14], e2⟩
theorem t_cp15_10 (h : jh) (m : Nat) (s : ms) : ∃ r, f_X13_copyTo (m + 15) (m + 10) (pm h m s) = some ((), pm h m (sw s 32 r)) ∧ ∀ j, j < 8 → r j = s 23 j := by
  obtain ⟨r, e1, e2⟩ := cpTo (H := pm h m s) (a := m + 15) (b := m + 10) (n := 8) (k := 8) (f := s 32) (g := s 23) (pm_at h m s 15 (by decide)) (pm_at h m s 10 (by decide)) (by omega) (Nat.le_refl _) (by decide)
  exact ⟨r, by rw [e1, pm_w15], e2⟩
theorem t_cp16_11 (h : jh) (m : Nat) (s : ms) : ∃ r, f_X13_copyTo (m + 16) (m + 11) (pm h m s) = some ((), pm h m (sw s 33 r)) ∧ ∀ j, j < 8 → r j = s 24 j := by
  obtain ⟨r, e1, e2⟩ := cpTo (H := pm h m s) (a := m + 16) (b := m + 11) (n := 8) (k := 8) (f := s 33) (g := s 24) (pm_at h m s 16 (by decide)) (pm_at h m s 11 (by decide)) (by omega) (Nat.le_refl _) (by decide)
  exact ⟨r, by rw [e1, pm_w16], e2⟩
theorem t_cp17_12 (h : jh) (m : Nat) (s : ms) : ∃ r, f_X13_copyTo (m + 17) (m + 12) (pm h m s) = some ((), pm h m (sw s 34 r)) ∧ ∀ j, j < 8 → r j = s 25 j := by
  obtain ⟨r, e1, e2⟩ := cpTo (H := pm h m s) (a := m + 17) (b := m + 12) (n := 8) (k := 8) (f := s 34) (g := s 25) (pm_at h m s 17 (by decide)) (pm_at h m s 12 (by decide)) (by omega) (Nat.le_refl _) (by decide)
  exact ⟨r, by rw [e1, pm_w17], e2⟩
theorem t_cp18_3 (h : jh) (m : Nat) (s : ms) : ∃ r, f_X13_copyTo (m + 18) (m + 3) (pm h m s) = some ((), pm h m (sw s 35 r)) ∧ ∀ j, j < 3 → r j = s 3 j := by
  obtain ⟨r, e1, e2⟩ := cpTo (H := pm h m s) (a := m + 18) (b := m + 3) (n := 3) (k := 3) (f := s 35) (g := s 3) (pm_at h m s 18 (by decide)) (pm_at h m s 3 (by decide)) (by omega) (Nat.le_refl _) (by decide)
  exact ⟨r, by rw [e1, pm_w18], e2⟩
theorem t_cp2_13 (h : jh) (m : Nat) (s : ms) : ∃ r, f_X13_copyTo (m + 2) (m + 13) (pm h m s) = some ((), pm h m (sw s 2 r)) ∧ ∀ j, j < 595 → r j = s 30 j := by
  obtain ⟨r, e1, e2⟩ := cpTo (H := pm h m s) (a := m + 2) (b := m + 13) (n := 595) (k := 595) (f := s 2) (g := s 30) (pm_at h m s 2 (by decide)) (pm_at h m s 13 (by decide)) (by omega) (Nat.le_refl _) (by decide)
  exact ⟨r, by rw [e1, pm_w2], e2⟩
theorem t_cp7_14 (h : jh) (m : Nat) (s : ms) : ∃ r, f_X13_copyTo (m + 7) (m + 14) (pm h m s) = some ((), pm h m (sw s 19 r)) ∧ ∀ j, j < 23800 → r j = s 31 j := by
  obtain ⟨r, e1, e2⟩ := cpTo (H := pm h m s) (a := m + 7) (b := m + 14) (n := 23800) (k := 23800) (f := s 19) (g := s 31) (pm_at h m s 7 (by decide)) (pm_at h m s 14 (by decide)) (by omega) (Nat.le_refl _) (by decide)
  exact ⟨r, by rw [e1, pm_w7], e2⟩
theorem t_cp10_15 (h : jh) (m : Nat) (s : ms) : ∃ r, f_X13_copyTo (m + 10) (m + 15) (pm h m s) = some ((), pm h m (sw s 23 r)) ∧ ∀ j, j < 8 → r j = s 32 j := by
  obtain ⟨r, e1, e2⟩ := cpTo (H := pm h m s) (a := m + 10) (b := m + 15) (n := 8) (k := 8) (f := s 23) (g := s 32) (pm_at h m s 10 (by decide)) (pm_at h m s 15 (by decide)) (by omega) (Nat.le_refl _) (by decide)
  exact ⟨r, by rw [e1, pm_w10], e2⟩
theorem t_cp11_16 (h : jh) (m : Nat) (s : ms) : ∃ r, f_X13_copyTo (m + 11) (m + 16) (pm h m s) = some ((), pm h m (sw s 24 r)) ∧ ∀ j, j < 8 → r j = s 33 j := by
  obtain ⟨r, e1, e2⟩ := cpTo (H := pm h m s) (a := m + 11) (b := m + 16) (n := 8) (k := 8) (f := s 24) (g := s 33) (pm_at h m s 11 (by decide)) (pm_at h m s 16 (by decide)) (by omega) (Nat.le_refl _) (by decide)
  exact ⟨r, by rw [e1, pm_w11], e2⟩
theorem t_cp12_17 (h : jh) (m : Nat) (s : ms) : ∃ r, f_X13_copyTo (m + 12) (m + 17) (pm h m s) = some ((), pm h m (sw s 25 r)) ∧ ∀ j, j < 8 → r j = s 34 j := by
  obtain ⟨r, e1, e2⟩ := cpTo (H := pm h m s) (a := m + 12) (b := m + 17) (n := 8) (k := 8) (f := s 25) (g := s 34) (pm_at h m s 12 (by decide)) (pm_at h m s 17 (by decide)) (by omega) (Nat.le_refl _) (by decide)
  exact ⟨r, by rw [e1, pm_w12], e2⟩
theorem t_cp3_18 (h : jh) (m : Nat) (s : ms) : ∃ r, f_X13_copyTo (m + 3) (m + 18) (pm h m s) = some ((), pm h m (sw s 3 r)) ∧ ∀ j, j < 3 → r j = s 35 j := by
  obtain ⟨r, e1, e2⟩ := cpTo (H := pm h m s) (a := m + 3) (b := m + 18) (n := 3) (k := 3) (f := s 3) (g := s 35) (pm_at h m s 3 (by decide)) (pm_at h m s 18 (by decide)) (by omega) (Nat.le_refl _) (by decide)
  exact ⟨r, by rw [e1, pm_w3], e2⟩
/-- a row written behind the past -/
theorem t_h99 {h : jh} {m : Nat} {s : ms} (k : Nat) (hk : k < 40) (e18 : s 18 0 = nI k) (x : Int32) (K : Nat → Int32 → jh → Option (Int32 × jh)) (L : Nat → Nat → Int32 → Int32 → jh → Option (Int32 × jh)) (hL : ∀ f, L (f + 1) = f_X13_act_h99 K (L f)) : ∀ c i f (r : Nat → Int32), i + c = 595 → c + 1 ≤ f → ∃ r', L f m x (nI i) (pm h m (sw s 19 r)) = K m x (pm h m (sw s 19 r')) ∧ (∀ j, i ≤ j → j < 595 → r' (595 * k + j) = s 20 j) ∧ ∀ j, j < 595 * k + i → r' j = r j := by
  intro c
  induction c with
  | zero =>
    intro i f r hi hf
    obtain ⟨f, rfl⟩ : ∃ g, f = g + 1 := ⟨f - 1, by omega⟩
    refine ⟨r, ?_, fun j h1 h2 => by omega, fun _ _ => rfl⟩
    rw [hL]
    unfold f_X13_act_h99
    rw [if_pos (show (595 : Int32) ≤ nI i by rw [show (595 : Int32) = nI 595 from rfl, al_le (by omega) (by omega)]; omega)]
  | succ c ih =>
    intro i f r hi hf
    obtain ⟨f, rfl⟩ : ∃ g, f = g + 1 := ⟨f - 1, by omega⟩
    obtain ⟨r', e1, e3, e4⟩ := ih (i + 1) f (upd r (595 * k + i) (s 20 i)) (by omega) (by omega)
    refine ⟨r', ?_, ?_, ?_⟩
    · rw [hL]
      unfold f_X13_act_h99
      have f18 : sw s 19 r 18 0 = nI k := by rw [sw_ne _ _ _ _ (by decide)]; exact e18
      have f20 : sw s 19 r 20 i = s 20 i := by rw [sw_ne _ _ _ _ (by decide)]
      rw [if_neg (show ¬ (595 : Int32) ≤ nI i by rw [show (595 : Int32) = nI 595 from rfl, al_le (by omega) (by omega)]; omega), pm_gR19, pm_gI18, f18, pm_gR20, rd20 _ _ _ _ _ (by omega), f20, show (595 : Int32) * nI k + nI i = nI (595 * k + i) by rw [show (595 : Int32) = nI 595 from rfl, al_mul, al_add], wr19 _ _ _ _ _ _ (by omega), st2_sw, sw_sw, sw_eq, show nI i + 1 = nI (i + 1) from al_add i 1]
      exact e1
    · intro j h1 h2
      by_cases e : j = i
      · rw [e4 _ (by omega), e]; exact if_pos rfl
      · exact e3 j (by omega) h2
    · intro j h1
      rw [e4 j (by omega)]; exact if_neg (by omega)
/-- the past moved by a row -/
theorem sw_same {s : ms} {k : Nat} {r : Nat → Int32} (h : s k = r) : sw s k r = s := by subst h; exact sw_id s k
theorem t_h52 {h : jh} {m : Nat} {s : ms} (x : Int32) (K : Nat → Int32 → jh → Option (Int32 × jh)) (L : Nat → Nat → Int32 → Int32 → jh → Option (Int32 × jh)) (hL : ∀ f, L (f + 1) = f_X13_act_h52 K (L f)) (g : Nat → Int32) : ∀ c i f (r : Nat → Int32), i + c = 23205 → c + 1 ≤ f → (∀ j, j < i → r j = g (j + 595)) → (∀ j, i ≤ j → r j = g j) → ∃ r', L f m x (nI (i + 595)) (pm h m (sw s 19 r)) = K m x (pm h m (sw s 19 r')) ∧ ∀ j, j < 23205 → r' j = g (j + 595) := by
  intro c
  induction c with
  | zero =>
    intro i f r hi hf h1 h2
    obtain ⟨f, rfl⟩ : ∃ g, f = g + 1 := ⟨f - 1, by omega⟩
    refine ⟨r, ?_, fun j hj => h1 j (by omega)⟩
    rw [hL]
    unfold f_X13_act_h52
    rw [pm_gR19, pm_lnI19, if_pos (show (23800 : Int32) ≤ nI (i + 595) by rw [show (23800 : Int32) = nI 23800 from rfl, al_le (by omega) (by omega)]; omega)]
  | succ c ih =>
    intro i f r hi hf h1 h2
    obtain ⟨f, rfl⟩ : ∃ g, f = g + 1 := ⟨f - 1, by omega⟩
    have hr : r (i + 595) = g (i + 595) := h2 _ (by omega)
    have u1 : ∀ j, j < i + 1 → upd r i (g (i + 595)) j = g (j + 595) := by
      intro j hj
      unfold upd
      by_cases e : j = i
      · rw [if_pos e, e]
      · rw [if_neg e]; exact h1 j (by omega)
    have u2 : ∀ j, i + 1 ≤ j → upd r i (g (i + 595)) j = g j := by
      intro j hj
      unfold upd
      rw [if_neg (by omega)]; exact h2 j (by omega)
    obtain ⟨r', e1, e3⟩ := ih (i + 1) f (upd r i (g (i + 595))) (by omega) (by omega) u1 u2
    refine ⟨r', ?_, e3⟩
    rw [hL]
    unfold f_X13_act_h52
    have f19 : sw s 19 r 19 (i + 595) = g (i + 595) := by rw [sw_eq]; exact hr
    have ei : nI (i + 595) - (595 : Int32) = nI i := by
      rw [show (595 : Int32) = nI 595 from rfl, al_sub (by omega), Nat.add_sub_cancel]
    have ej : nI (i + 595) + (1 : Int32) = nI (i + 1 + 595) := by
      rw [show (1 : Int32) = nI 1 from rfl, al_add, show i + 595 + 1 = i + 1 + 595 by omega]
    rw [pm_gR19, pm_lnI19, if_neg (show ¬ (23800 : Int32) ≤ nI (i + 595) by rw [show (23800 : Int32) = nI 23800 from rfl, al_le (by omega) (by omega)]; omega), pm_gR19, pm_gR19, rd19 _ _ _ _ _ (by omega), f19, ei, wr19 _ _ _ _ _ _ (by omega), st2_sw, sw_sw, sw_eq, ej]
    exact e1
theorem t_refuse {h : jh} {m : Nat} {s : ms} (i : Nat) (hi : i < 3) : f_X13_refuse m (nI i) (pm h m s) = some (nm1, pm h m (sw s 3 (upd (s 3) i (s 3 i + 1)))) := by
  unfold f_X13_refuse
  rw [pm_gR3, rd3 _ _ _ _ _ hi, wr3 _ _ _ _ _ _ hi, st2_sw]
  rfl
theorem rfs_st {N : ms} {r : Nat → Int32} (i : Nat) (h : ∀ j, j < 3 → r j = N 3 j) (hi : i < 3) : ∀ j, j < 3 → upd r i (r i + 1) j = rfs N i 3 j := by
  intro j hj
  unfold rfs
  rw [sw_eq]
  unfold upd
  by_cases e : j = i
  · rw [if_pos e, if_pos e, h i hi]
  · rw [if_neg e, if_neg e, h j hj]
/-- a refusal counted -/
def tRef (T : ta) (i : Nat) : ta := (T.1, T.2.1, T.2.2.1, T.2.2.2.1, rfs T.2.2.2.2 i)
theorem r_ref {h : jh} {m : Nat} {s : ms} {T : ta} {hi : Bool} {TI : ta} {fl : Int32} {n : Nat} {tp : Nat → Int32} (R : RS s T hi TI fl n tp) (i : Nat) (hi3 : i < 3) : ∃ s', f_X13_refuse m (nI i) (pm h m s) = some (nm1, pm h m s') ∧ RS s' (tRef T i) hi TI fl n tp := by
  refine ⟨_, t_refuse i hi3, ?_⟩
  have e : ∀ k, k ≠ 3 → sw s 3 (upd (s 3) i (s 3 i + 1)) k = s k := fun k hk => sw_ne _ _ _ _ hk
  refine ⟨?_, ?_, ?_, ?_, ?_, ?_, ?_, ?_, ?_, ?_, ?_⟩
  · rw [e 2 (by decide)]; exact R.row
  · rw [e 18 (by decide)]; exact R.ac
  · rw [e 19 (by decide)]; exact R.pa
  · rw [e 22 (by decide)]; exact R.nn
  · rw [e 23 (by decide), e 24 (by decide), e 25 (by decide)]
    intro j hj
    show _ = rfs T.2.2.2.2 i 0 j ∧ _ = rfs T.2.2.2.2 i 1 j ∧ _ = rfs T.2.2.2.2 i 2 j
    rw [rfs_ne _ _ _ (by decide), rfs_ne _ _ _ (by decide), rfs_ne _ _ _ (by decide)]
    exact R.nt j hj
  · rw [sw_eq]; exact rfs_st i R.st hi3
  · rw [e 27 (by decide)]; exact R.ih
  · intro h; exact RImg_k (R.im h) (fun k hk => e k (by omega))
  · rw [e 14 (by decide)]; exact R.fa
  · rw [e 5 (by decide)]; exact R.tn
  · rw [e 4 (by decide)]; exact R.tt
theorem r_act {h : jh} {m : Nat} {s : ms} {T : ta} {hi : Bool} {TI : ta} {fl : Int32} {n : Nat} {tp : Nat → Int32} (R : RS s T hi TI fl n tp) (hT : TO T) (w : Nat) (p a b c d : Int32) (hw : w < 11) (h4 : w = 4 → cl b 100 < 100 ∧ cl c 100 < 100 ∧ cl d 100 < 100) (h7 : w = 7 → cl b 3 < 3) : ∃ s', f_X13_act m (nI w) p a b c d (pm h m s) = some ((dDo T.1 w p a b c d).1, pm h m s') ∧ RS s' (tAct T (dDo T.1 w p a b c d)) hi TI fl n tp := by
  obtain ⟨f0, hf0⟩ := jfu_s
  obtain ⟨tO, tk, tP, -, -⟩ := hT
  unfold f_X13_act
  obtain ⟨r0, e1, e2⟩ := t_cp8_2 h m s
  rw [pm_gR20, pm_gR2, e1, bd_some, pm_cV]
  have R1 : RowV ((sw s 20 r0) 2) T.1 := by rw [sw_ne _ _ _ _ (by decide)]; exact R.row
  obtain ⟨s2, k1, k2, k3⟩ := d_does (h := h) (m := m) R1 tO.1 tO.2 w p a b c d hw h4 h7
  rw [k1, bd_some]
  have ee : ∀ k, k ≠ 2 → k ≠ 17 → k ≠ 20 → s2 k = s k := fun k g1 g2 g3 => (k2 k g1 g2).trans (sw_ne _ _ _ _ g3)
  have e20 : s2 20 = r0 := (k2 20 (by decide) (by decide)).trans (sw_eq _ _ _)
  generalize dDo T.1 w p a b c d = X at k3 ⊢
  -- the state with the row's past as it was
  have Rk : ∀ (v' : vw), RowV (s2 2) v' → ∀ (T' : ta), T'.1 = v' → T'.2.2.2.1 = T.2.2.2.1 → (∀ k, k ≠ 3 → T'.2.2.2.2 k = T.2.2.2.2 k) → ∀ s3 : ms, (∀ k, k ≠ 3 → k ≠ 18 → k ≠ 19 → s3 k = s2 k) → s3 18 0 = nI T'.2.1 → (∀ i, i < T'.2.1 → RowV (fun j => s3 19 (595 * i + j)) (T'.2.2.1 i)) → (∀ j, j < 3 → s3 3 j = T'.2.2.2.2 3 j) → RS s3 T' hi TI fl n tp := by
    intro v' hv T' t1 t2 t3 s3 g1 g2 g3 g4
    refine ⟨?_, g2, g3, ?_, ?_, g4, ?_, ?_, ?_, ?_, ?_⟩
    · rw [g1 2 (by decide) (by decide) (by decide), t1]; exact hv
    · rw [g1 22 (by decide) (by decide) (by decide), ee 22 (by decide) (by decide) (by decide), t2]; exact R.nn
    · rw [g1 23 (by decide) (by decide) (by decide), g1 24 (by decide) (by decide) (by decide), g1 25 (by decide) (by decide) (by decide), ee 23 (by decide) (by decide) (by decide), ee 24 (by decide) (by decide) (by decide), ee 25 (by decide) (by decide) (by decide), t2, t3 0 (by decide), t3 1 (by decide), t3 2 (by decide)]; exact R.nt
    · rw [g1 27 (by decide) (by decide) (by decide), ee 27 (by decide) (by decide) (by decide)]; exact R.ih
    · intro h; exact RImg_k (R.im h) (fun k hk => (g1 k (by omega) (by omega) (by omega)).trans (ee k (by omega) (by omega) (by omega)))
    · rw [g1 14 (by decide) (by decide) (by decide), ee 14 (by decide) (by decide) (by decide)]; exact R.fa
    · rw [g1 5 (by decide) (by decide) (by decide), ee 5 (by decide) (by decide) (by decide)]; exact R.tn
    · rw [g1 4 (by decide) (by decide) (by decide), ee 4 (by decide) (by decide) (by decide)]; exact R.tt
  have e18 : s2 18 0 = nI T.2.1 := by rw [ee 18 (by decide) (by decide) (by decide)]; exact R.ac
  have e19 : s2 19 = s 19 := ee 19 (by decide) (by decide) (by decide)
  have e3 : ∀ j, j < 3 → s2 3 j = T.2.2.2.2 3 j := by rw [ee 3 (by decide) (by decide) (by decide)]; exact R.st
  have rowthen : RowV r0 T.1 := RowV_cg R.row tO.1.bd e2
  by_cases h0 : X.1 = nm1
  · rw [if_neg (show ¬ ¬ X.1 = (-1 : Int32) from not_not_intro h0), pm_cV, show f_X13_refuse m 1 (pm h m s2) = _ from t_refuse 1 (by decide), bd_some, h0]
    refine ⟨_, rfl, ?_⟩
    have hk' : (tAct T X).2.1 = T.2.1 := by unfold tAct; exact if_pos h0
    have hP' : (tAct T X).2.2.1 = T.2.2.1 := by unfold tAct; exact if_pos h0
    have hN' : (tAct T X).2.2.2.2 = rfs T.2.2.2.2 1 := by unfold tAct; exact if_pos h0
    refine Rk X.2 k3 (tAct T X) rfl rfl (fun k hk => by rw [hN']; exact rfs_ne _ _ _ hk) _ (fun k g1 _ _ => sw_ne _ _ _ _ g1) ?_ ?_ ?_
    · rw [sw_ne _ _ _ _ (by decide), hk']; exact e18
    · rw [sw_ne _ _ _ _ (by decide), hk', hP', e19]; exact R.pa
    · rw [sw_eq, hN']; exact rfs_st 1 e3 (by decide)
  · rw [if_pos (show ¬ X.1 = (-1 : Int32) from h0), pm_gI18, e18]
    have hk' : (tAct T X).2.1 = if T.2.1 = 40 then 40 else T.2.1 + 1 := by unfold tAct; exact if_neg h0
    have hP' : (tAct T X).2.2.1 = pushP T.2.2.1 T.2.1 T.1 := by unfold tAct; exact if_neg h0
    have hN' : (tAct T X).2.2.2.2 = T.2.2.2.2 := by unfold tAct; exact if_neg h0
    by_cases h40 : T.2.1 = 40
    · rw [if_neg (show ¬ ¬ nI T.2.1 = 40 from not_not_intro (by rw [h40]; rfl))]
      obtain ⟨r1, g1, g2⟩ := t_h52 (h := h) (m := m) (s := s2) X.1 (fun y28 y29 h27 => gI h27 y28 11 18 fun v30 => pV h27 y28 11 18 (.int (v30 - 1)) fun h31 => jlp3 (f_X13_act_h99 (fun y33 y34 h32 => gI h32 y33 11 18 fun v35 => pV h32 y33 11 18 (.int (v35 + 1)) fun h36 => some (y34, h36))) jfu y28 y29 0 h31) (jlp3 (f_X13_act_h52 (fun y28 y29 h27 => gI h27 y28 11 18 fun v30 => pV h27 y28 11 18 (.int (v30 - 1)) fun h31 => jlp3 (f_X13_act_h99 (fun y33 y34 h32 => gI h32 y33 11 18 fun v35 => pV h32 y33 11 18 (.int (v35 + 1)) fun h36 => some (y34, h36))) jfu y28 y29 0 h31))) (fun _ => rfl) (s2 19) 23205 0 jfu (s2 19) (by omega) (by omega) (fun j hj => by omega) (fun j _ => rfl)
      rw [sw_id, Nat.zero_add] at g1
      have f18 : sw s2 19 r1 18 0 = nI 40 := by rw [sw_ne _ _ _ _ (by decide), e18, h40]
      have f18' : sw (sw s2 19 r1) 18 (upd (sw s2 19 r1 18) 0 (nI 39)) 18 0 = nI 39 := by rw [sw_eq]; exact if_pos rfl
      obtain ⟨r2, q1, q2, q3⟩ := t_h99 (h := h) (m := m) (s := sw (sw s2 19 r1) 18 (upd (sw s2 19 r1 18) 0 (nI 39))) 39 (by decide) f18' X.1 (fun y33 y34 h32 => gI h32 y33 11 18 fun v35 => pV h32 y33 11 18 (.int (v35 + 1)) fun h36 => some (y34, h36)) (jlp3 (f_X13_act_h99 (fun y33 y34 h32 => gI h32 y33 11 18 fun v35 => pV h32 y33 11 18 (.int (v35 + 1)) fun h36 => some (y34, h36)))) (fun _ => rfl) 595 0 jfu r1 (by omega) (by omega)
      have e9 : sw (sw (sw s2 19 r1) 18 (upd (sw s2 19 r1 18) 0 (nI 39))) 19 r1 = sw (sw s2 19 r1) 18 (upd (sw s2 19 r1 18) 0 (nI 39)) := sw_same (by rw [sw_ne _ _ _ _ (by decide), sw_eq])
      rw [e9] at q1
      generalize hs3 : sw (sw (sw s2 19 r1) 18 (upd (sw s2 19 r1 18) 0 (nI 39))) 19 r2 = s3 at q1
      have t18 : s3 18 0 = nI 39 := by rw [← hs3, sw_ne _ _ _ _ (by decide)]; exact f18'
      have t19 : s3 19 = r2 := by rw [← hs3, sw_eq]
      have tk3 : ∀ k, k ≠ 18 → k ≠ 19 → s3 k = s2 k := fun k g3 g4 => by rw [← hs3, sw_ne _ _ _ _ g4, sw_ne _ _ _ _ g3, sw_ne _ _ _ _ g4]
      refine ⟨sw s3 18 (upd (s3 18) 0 (nI 40)), ?_, ?_⟩
      · refine Eq.trans g1 ?_
        show (gI (pm h m (sw s2 19 r1)) m 11 18 fun v30 => _) = _
        rw [pm_gI18, f18, pm_pV18, st2_sw, show nI 40 - (1 : Int32) = nI 39 from rfl]
        refine Eq.trans q1 ?_
        show (gI (pm h m s3) m 11 18 fun v35 => _) = _
        rw [pm_gI18, t18, pm_pV18, st2_sw]
        rfl
      · refine Rk X.2 k3 (tAct T X) rfl rfl (fun k _ => by rw [hN']) _ (fun k g3 g4 g5 => (sw_ne _ _ _ _ g4).trans (tk3 k g4 g5)) ?_ ?_ ?_
        · rw [sw_eq, hk', if_pos h40]; exact if_pos rfl
        · rw [sw_ne _ _ _ _ (by decide), hk', hP', if_pos h40, t19]
          intro i hi1
          unfold pushP
          rw [if_pos h40]
          have e20' : sw (sw s2 19 r1) 18 (upd (sw s2 19 r1 18) 0 (nI 39)) 20 = r0 := by rw [sw_ne _ _ _ _ (by decide), sw_ne _ _ _ _ (by decide), e20]
          rw [e20'] at q2
          by_cases h39 : i = 39
          · simp only [if_pos h39]
            subst h39
            exact RowV_cg rowthen tO.1.bd (fun j hj => q2 j (Nat.zero_le _) hj)
          · simp only [if_neg h39]
            refine RowV_cg (R.pa (i + 1) (by omega)) (tP (i + 1) (by omega)).1.bd (fun j hj => ?_)
            show r2 (595 * i + j) = s 19 (595 * (i + 1) + j)
            rw [q3 _ (by omega), g2 _ (by omega), e19, show 595 * i + j + 595 = 595 * (i + 1) + j by omega]
        · rw [sw_ne _ _ _ _ (by decide), tk3 3 (by decide) (by decide), hN']; exact e3
    · rw [if_pos (show ¬ nI T.2.1 = 40 by rw [show (40 : Int32) = nI 40 from rfl, al_eq (by omega) (by omega)]; exact h40)]
      obtain ⟨r2, q1, q2, q3⟩ := t_h99 (h := h) (m := m) (s := s2) T.2.1 (by omega) e18 X.1 (fun y16 y17 h15 => gI h15 y16 11 18 fun v18 => pV h15 y16 11 18 (.int (v18 + 1)) fun h19 => some (y17, h19)) (jlp3 (f_X13_act_h99 (fun y16 y17 h15 => gI h15 y16 11 18 fun v18 => pV h15 y16 11 18 (.int (v18 + 1)) fun h19 => some (y17, h19)))) (fun _ => rfl) 595 0 jfu (s2 19) (by omega) (by omega)
      rw [sw_id] at q1
      have t18 : sw s2 19 r2 18 0 = nI T.2.1 := by rw [sw_ne _ _ _ _ (by decide)]; exact e18
      refine ⟨sw (sw s2 19 r2) 18 (upd (sw s2 19 r2 18) 0 (nI (T.2.1 + 1))), ?_, ?_⟩
      · refine Eq.trans q1 ?_
        show (gI (pm h m (sw s2 19 r2)) m 11 18 fun v18 => _) = _
        rw [pm_gI18, t18, pm_pV18, st2_sw, show nI T.2.1 + 1 = nI (T.2.1 + 1) from al_add _ 1]
      · refine Rk X.2 k3 (tAct T X) rfl rfl (fun k _ => by rw [hN']) _ (fun k g3 g4 g5 => (sw_ne _ _ _ _ g4).trans (sw_ne _ _ _ _ g5)) ?_ ?_ ?_
        · rw [sw_eq, hk', if_neg h40]; exact if_pos rfl
        · rw [sw_ne _ _ _ _ (by decide), sw_eq, hk', hP', if_neg h40]
          intro i hi1
          unfold pushP
          rw [if_neg h40]
          rw [e20] at q2
          by_cases h39 : i = T.2.1
          · simp only [if_pos h39]
            subst h39
            exact RowV_cg rowthen tO.1.bd (fun j hj => q2 j (Nat.zero_le _) hj)
          · simp only [if_neg h39]
            refine RowV_cg (R.pa i (by omega)) (tP i (by omega)).1.bd (fun j hj => ?_)
            show r2 (595 * i + j) = s 19 (595 * i + j)
            have hlt : 595 * i + 595 ≤ 595 * T.2.1 := by omega
            rw [q3 _ (by omega), e19]
        · rw [sw_ne _ _ _ _ (by decide), sw_ne _ _ _ _ (by decide), hN']; exact e3
