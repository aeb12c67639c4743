/-! roads: the reference's levels, and what it tells -/
def LV (v : vw) (p n : Nat) (t : Nat → Nat) : Prop := ∀ u b m, u < 8 → b ≤ 1 → m < 8 → (t (16 * u + 8 * b + m) = 0 ∧ ¬ WR v p n u b m) ∨ (∃ d, d ≤ n ∧ t (16 * u + 8 * b + m) = d + 1 ∧ WR v p d u b m ∧ ∀ e, e < d → ¬ WR v p e u b m)
def FIN (v : vw) (p : Nat) (t : Nat → Nat) : Prop := ∀ u b m, u < 8 → b ≤ 1 → m < 8 → (t (16 * u + 8 * b + m) = 0 ∧ ∀ n, ¬ WR v p n u b m) ∨ (∃ d, t (16 * u + 8 * b + m) = d + 1 ∧ WR v p d u b m ∧ ∀ e, e < d → ¬ WR v p e u b m)
theorem edk_of {v : vw} {p u b m k : Nat} (hk : k < 128) (hm : m < 8) (hb1 : b ≤ 1) (h : edk v p k (16 * u + 8 * b + m)) : b = 1 ∧ ((k % 8 = m ∧ mvU v p (k / 16) (decide (k / 8 % 2 = 1)) u) ∨ (m ≠ k % 8 ∧ k / 16 = u ∧ k / 8 % 2 = 1 ∧ mvM v p u (decide (k / 8 % 2 = 1)) m)) ∨ ¬ (∀ q, q < 16 → v 4 q < 8) := by
  by_cases h8 : ∀ q, q < 16 → v 4 q < 8
  · left
    obtain ⟨q, hq, ho, g⟩ := h
    have := h8 q hq
    rcases g with ⟨g1, g2, g3⟩ | ⟨g1, g2, g3, g4⟩
    · have e1 : v 3 q = u := by omega
      have e2 : k % 8 = m := by omega
      refine ⟨by omega, Or.inl ⟨e2, q, hq, ho, e1, by rw [← e1]; exact g1, by rw [← e1]; exact g2⟩⟩
    · have e1 : k / 16 = u := by omega
      have e2 : v 4 q = m := by omega
      refine ⟨by omega, Or.inr ⟨by rw [← e2]; exact g2, e1, of_decide_eq_true g1, ?_⟩⟩
      rw [g1] at g3
      rw [e1, e2] at g3
      exact ⟨g1, q, hq, ho, e2, g3⟩
  · exact Or.inr h8
theorem edk_U {v : vw} {p u u' b' m : Nat} (hu : u' < 8) (hb1 : b' ≤ 1) (hm : m < 8) (h : mvU v p u' (decide (b' = 1)) u) : edk v p (16 * u' + 8 * b' + m) (16 * u + 8 * 1 + m) := by
  obtain ⟨q, hq, ho, e, g1, g2⟩ := h
  refine ⟨q, hq, ho, Or.inl ?_⟩
  rw [show (16 * u' + 8 * b' + m) / 16 = u' by omega, show (16 * u' + 8 * b' + m) / 8 % 2 = b' by omega, show (16 * u' + 8 * b' + m) % 8 = m by omega, e]
  exact ⟨g1, g2, by omega⟩
theorem edk_M {v : vw} {p u b m m' : Nat} (hu : u < 8) (hb1 : b ≤ 1) (hm : m' < 8) (hne : m ≠ m') (h : mvM v p u (decide (b = 1)) m) : edk v p (16 * u + 8 * b + m') (16 * u + 8 * b + m) := by
  obtain ⟨e0, q, hq, ho, e, g2⟩ := h
  have hb := of_decide_eq_true e0
  refine ⟨q, hq, ho, Or.inr ?_⟩
  rw [show (16 * u + 8 * b + m') / 16 = u by omega, show (16 * u + 8 * b + m') / 8 % 2 = b by omega, show (16 * u + 8 * b + m') % 8 = m' by omega, e, e0]
  exact ⟨rfl, hne, g2, by omega⟩
theorem LV_s {v : vw} (W : WFv v) {p n : Nat} (hp : p < 16) {t t' : Nat → Nat} (h : LV v p n t) (A : ADD t (n + 2) (fun j => ∃ k, 0 ≤ k ∧ k < 128 ∧ t k = n + 1 ∧ edk v p k j) t') : LV v p (n + 1) t' := by
  have hc2 := W.c2
  have h8 : ∀ q, q < 16 → v 4 q < 8 := fun q hq => by have := W.pr q hq; omega
  intro u b m hu hb1 hm
  obtain ⟨a1, a2, a3⟩ := A (16 * u + 8 * b + m)
  rcases h u b m hu hb1 hm with ⟨e0, hno⟩ | ⟨d, hd, e0, hw, hl⟩
  · have mono : ∀ e, e < n + 1 → ¬ WR v p e u b m := fun e he hw => hno (WR_le hw n (by omega))
    by_cases hx : ∃ k, 0 ≤ k ∧ k < 128 ∧ t k = n + 1 ∧ edk v p k (16 * u + 8 * b + m)
    · right
      refine ⟨n + 1, Nat.le_refl _, a2 e0 hx, ?_, mono⟩
      obtain ⟨k, -, hk, et, ek⟩ := hx
      have ek' : k = 16 * (k / 16) + 8 * (k / 8 % 2) + k % 8 := by omega
      have hwk : WR v p n (k / 16) (k / 8 % 2) (k % 8) := by
        rcases h (k / 16) (k / 8 % 2) (k % 8) (by omega) (by omega) (by omega) with ⟨c0, -⟩ | ⟨d, hd, c0, hw, -⟩
        · rw [← ek'] at c0; omega
        · rw [← ek'] at c0
          rw [show n = d by omega]; exact hw
      rcases edk_of hk hm hb1 ek with ⟨hb, g | g⟩ | g
      · exact Or.inr (Or.inl ⟨k / 16, k / 8 % 2, by rw [← g.1]; exact hwk, g.2, hb⟩)
      · refine Or.inr (Or.inr ⟨k % 8, ?_, g.1, ?_⟩)
        · rw [g.2.1, g.2.2.1] at hwk; rw [hb]; exact hwk
        · have := g.2.2.2
          rw [g.2.2.1] at this
          rw [hb]; exact this
      · exact absurd h8 g
    · left
      refine ⟨a3 e0 hx, ?_⟩
      rintro (hw | ⟨u', b', hw, hmv, rfl⟩ | ⟨m', hw, hne, hmv⟩)
      · exact hno hw
      · obtain ⟨c1, c2, c3⟩ := WR_b W hp n u' b' m hw
        rcases h u' b' m c1 c2 c3 with ⟨-, c0⟩ | ⟨d, hd, c0, hw', -⟩
        · exact c0 hw
        · by_cases hdn : d = n
          · exact hx ⟨_, Nat.zero_le _, by omega, by rw [c0, hdn], edk_U c1 c2 c3 hmv⟩
          · exact hno (WR_le (n := d + 1) (u := u) (b := 1) (m := m) (Or.inr (Or.inl ⟨u', b', hw', hmv, rfl⟩)) n (by omega))
      · obtain ⟨c1, c2, c3⟩ := WR_b W hp n u b m' hw
        rcases h u b m' c1 c2 c3 with ⟨-, c0⟩ | ⟨d, hd, c0, hw', -⟩
        · exact c0 hw
        · by_cases hdn : d = n
          · exact hx ⟨_, Nat.zero_le _, by omega, by rw [c0, hdn], edk_M c1 c2 c3 hne hmv⟩
          · exact hno (WR_le (n := d + 1) (u := u) (b := b) (m := m) (Or.inr (Or.inr ⟨m', hw', hne, hmv⟩)) n (by omega))
  · exact Or.inr ⟨d, by omega, by rw [a1 (by omega)]; exact e0, hw, hl⟩
theorem WR_st {v : vw} {p n : Nat} (hs : ∀ u b m, WR v p (n + 1) u b m → WR v p n u b m) : ∀ k u b m, WR v p k u b m → WR v p n u b m := by
  intro k
  induction k with
  | zero => intro u b m h; exact WR_le h n (Nat.zero_le _)
  | succ k ih =>
    rintro u b m (h | ⟨u', b', h, g⟩ | ⟨m', h, g⟩)
    · exact ih _ _ _ h
    · exact hs _ _ _ (Or.inr (Or.inl ⟨u', b', ih _ _ _ h, g⟩))
    · exact hs _ _ _ (Or.inr (Or.inr ⟨m', ih _ _ _ h, g⟩))
theorem LV_fin {v : vw} (W : WFv v) {p n : Nat} (hp : p < 16) {t t' : Nat → Nat} (h : LV v p n t) (h' : LV v p (n + 1) t') (hf : ∀ j, j < 128 → t j = 0 → t' j = 0) : FIN v p t' := by
  have hs : ∀ u b m, WR v p (n + 1) u b m → WR v p n u b m := by
    intro u b m hw
    obtain ⟨c1, c2, c3⟩ := WR_b W hp _ u b m hw
    rcases h u b m c1 c2 c3 with ⟨e0, -⟩ | ⟨d, hd, -, hw', -⟩
    · rcases h' u b m c1 c2 c3 with ⟨-, hno⟩ | ⟨d, hd, e1, -⟩
      · exact absurd hw hno
      · have := hf _ (by omega) e0; omega
    · exact WR_le hw' n hd
  intro u b m hu hb1 hm
  rcases h' u b m hu hb1 hm with ⟨e0, hno⟩ | ⟨d, hd, e0, hw, hl⟩
  · exact Or.inl ⟨e0, fun k hw => hno (WR_s (WR_st hs k u b m hw))⟩
  · exact Or.inr ⟨d, e0, hw, hl⟩
theorem cnt_mono {P Q : Nat → Bool} (h : ∀ j, Q j = true → P j = true) : ∀ k i, cnt Q k i ≤ cnt P k i := by
  intro k
  induction k with
  | zero => intro i; exact Nat.le_refl _
  | succ k ih =>
    intro i
    have := ih (i + 1)
    rw [cnt, cnt]
    by_cases h1 : Q i = true
    · rw [if_pos h1, if_pos (h i h1)]; omega
    · rw [if_neg h1]; split <;> omega
theorem cnt_less {P Q : Nat → Bool} (h : ∀ j, Q j = true → P j = true) (x : Nat) (h1 : P x = true) (h2 : Q x = false) : ∀ k i, i ≤ x → x < i + k → cnt Q k i < cnt P k i := by
  intro k
  induction k with
  | zero => intro i h3 h4; omega
  | succ k ih =>
    intro i h3 h4
    rw [cnt, cnt]
    by_cases e : i = x
    · subst e
      have := cnt_mono h k (i + 1)
      rw [h1, h2]
      simp
      omega
    · have := ih (i + 1) (by omega) (by omega)
      by_cases h5 : Q i = true
      · rw [if_pos h5, if_pos (h i h5)]; omega
      · rw [if_neg h5]; split <;> omega
theorem t_lev_l {h : jh} {m0 : Nat} {s : ms} {v : vw} (R : RowV (s 2) v) (W : WFv v) (p : Nat) (hp : p < 16) (L : Nat → Nat → Int32 → Int32 → Int32 → jh → Option (Unit × jh)) (hL : ∀ f, L (f + 1) = f_X13_tellSteps_h54 (fun h31 => some ((), h31)) (L f)) : ∀ y n f (r : Nat → Int32) (t : Nat → Nat), cnt (fun k => decide (t k = 0)) 128 0 ≤ y → n + y ≤ 200 → y + 3 ≤ f → TK r t → Bt t → LV v p n t → (∀ j, j < 128 → t j ≠ 0 → j / 16 < v 11 0) → ∃ r' t', L f m0 (nI p) (nI 1) (nI n) (pm h m0 (sw s 21 r)) = some ((), pm h m0 (sw s 21 r')) ∧ TK r' t' ∧ Bt t' ∧ FIN v p t' := by
  have hc1 := W.c1
  have hc2 := W.c2
  obtain ⟨f0, hf0⟩ := jfu_s
  intro y
  induction y with
  | zero =>
    intro n f r t hy hny hf hT hB hV hu
    obtain ⟨f, rfl⟩ : ∃ g, f = g + 1 + 1 := ⟨f - 2, by omega⟩
    obtain ⟨r1, t1, c, e1, e2, e3, e4⟩ := t_pass_l (h := h) (m0 := m0) R W p n hp (by omega) (L (f + 1)) (fun h31 => some ((), h31)) (fun y27 y28 y29 y30 h26 => L (f + 1) y27 y28 y29 (y30 + 1) h26) (jlp5 (f_X13_tellSteps_h63 (L (f + 1)) (fun h31 => some ((), h31)) (fun y27 y28 y29 y30 h26 => L (f + 1) y27 y28 y29 (y30 + 1) h26))) (fun _ => rfl) 128 0 false jfu r t (by omega) (by omega) hT hB hu
    have hV1 := LV_s W hp hV e3
    have hc0 : c = false := by
      cases c
      · rfl
      · obtain ⟨j, hj, g1, g2⟩ := e4.mp rfl
        have := cnt_less (P := fun k => decide (t k = 0)) (Q := fun _ => false) (fun _ h => by cases h) j (decide_eq_true g1) rfl 128 0 (Nat.zero_le _) (by omega)
        omega
    subst hc0
    refine ⟨r1, t1, ?_, e2, Bt_add hB (by omega) e3 (fun j => Classical.em _), LV_fin W hp hV hV1 (fun j hj g => Classical.byContradiction (fun g2 => by have := e4.mpr ⟨j, hj, g, g2⟩; cases this))⟩
    rw [hL]
    unfold f_X13_tellSteps_h54
    rw [if_neg (show ¬ nI 1 = 0 by decide)]
    refine Eq.trans e1 ?_
    show L (f + 1) m0 (nI p) (nI 0) _ _ = _
    rw [hL]
    unfold f_X13_tellSteps_h54
    rw [if_pos (show nI 0 = 0 from rfl)]
  | succ y ih =>
    intro n f r t hy hny hf hT hB hV hu
    obtain ⟨f, rfl⟩ : ∃ g, f = g + 1 + 1 := ⟨f - 2, by omega⟩
    obtain ⟨r1, t1, c, e1, e2, e3, e4⟩ := t_pass_l (h := h) (m0 := m0) R W p n hp (by omega) (L (f + 1)) (fun h31 => some ((), h31)) (fun y27 y28 y29 y30 h26 => L (f + 1) y27 y28 y29 (y30 + 1) h26) (jlp5 (f_X13_tellSteps_h63 (L (f + 1)) (fun h31 => some ((), h31)) (fun y27 y28 y29 y30 h26 => L (f + 1) y27 y28 y29 (y30 + 1) h26))) (fun _ => rfl) 128 0 false jfu r t (by omega) (by omega) hT hB hu
    have hV1 := LV_s W hp hV e3
    have hB1 : Bt t1 := Bt_add hB (by omega) e3 (fun j => Classical.em _)
    have hu1 : ∀ j, j < 128 → t1 j ≠ 0 → j / 16 < v 11 0 := by
      intro j hj hne
      by_cases hz : t j = 0
      · by_cases hx : ∃ k, 0 ≤ k ∧ k < 128 ∧ t k = n + 1 ∧ edk v p k j
        · obtain ⟨k, -, hk, et, q, hq, -, g⟩ := hx
          have := W.pr q hq
          have := hu k hk (by omega)
          rcases g with ⟨-, -, e⟩ | ⟨-, -, -, e⟩ <;> omega
        · exact absurd ((e3 j).2.2 hz hx) hne
      · exact hu j hj hz
    rw [hL]
    unfold f_X13_tellSteps_h54
    rw [if_neg (show ¬ nI 1 = 0 by decide)]
    cases c
    · refine ⟨r1, t1, ?_, e2, hB1, LV_fin W hp hV hV1 (fun j hj g => Classical.byContradiction (fun g2 => by have := e4.mpr ⟨j, hj, g, g2⟩; cases this))⟩
      refine Eq.trans e1 ?_
      show L (f + 1) m0 (nI p) (nI 0) _ _ = _
      rw [hL]
      unfold f_X13_tellSteps_h54
      rw [if_pos (show nI 0 = 0 from rfl)]
    · obtain ⟨j, hj, g1, g2⟩ := e4.mp rfl
      have hlt := cnt_less (P := fun k => decide (t k = 0)) (Q := fun k => decide (t1 k = 0)) (fun k hk => by
        have hk := of_decide_eq_true hk
        refine decide_eq_true (Classical.byContradiction (fun hne => ?_))
        rw [(e3 k).1 hne] at hk
        exact hne hk) j (decide_eq_true g1) (decide_eq_false g2) 128 0 (Nat.zero_le _) (by omega)
      obtain ⟨r2, t2, k1, k2⟩ := ih (n + 1) (f + 1) r1 t1 (by omega) (by omega) (by omega) e2 hB1 hV1 hu1
      refine ⟨r2, t2, ?_, k2⟩
      refine Eq.trans e1 ?_
      show L (f + 1) m0 (nI p) (nI 1) (nI n + 1) _ = _
      rw [show nI n + 1 = nI (n + 1) from al_add n 1]
      exact k1
theorem t_tell0_l {h : jh} {m0 : Nat} {s : ms} (a : Int32) (K : Nat → Int32 → jh → Option (Unit × jh)) (L : Nat → Nat → Int32 → Int32 → jh → Option (Unit × jh)) (hL : ∀ f, L (f + 1) = f_X13_tellSteps_h2 K (L f)) : ∀ k i f (r : Nat → Int32), i + k = 128 → k + 1 ≤ f → ∃ r', L f m0 a (nI i) (pm h m0 (sw s 21 r)) = K m0 a (pm h m0 (sw s 21 r')) ∧ (∀ j, i ≤ j → j < 128 → r' j = nm1) ∧ ∀ j, j < i → r' j = r j := by
  intro k
  induction k with
  | zero =>
    intro i f r hi hf
    obtain ⟨f, rfl⟩ : ∃ g, f = g + 1 := ⟨f - 1, by omega⟩
    refine ⟨r, ?_, fun j h1 h2 => by omega, fun _ _ => rfl⟩
    rw [hL]
    unfold f_X13_tellSteps_h2
    rw [if_pos (show (128 : Int32) ≤ nI i by rw [show (128 : Int32) = nI 128 from rfl, al_le (by omega) (by omega)]; omega)]
  | succ k ih =>
    intro i f r hi hf
    obtain ⟨f, rfl⟩ : ∃ g, f = g + 1 := ⟨f - 1, by omega⟩
    obtain ⟨r', e1, e2, e3⟩ := ih (i + 1) f (upd r i nm1) (by omega) (by omega)
    refine ⟨r', ?_, ?_, ?_⟩
    · rw [hL]
      unfold f_X13_tellSteps_h2
      rw [if_neg (show ¬ (128 : Int32) ≤ nI i by rw [show (128 : Int32) = nI 128 from rfl, al_le (by omega) (by omega)]; omega), pm_gR21, wr21 _ _ _ _ _ _ (by omega), st2_sw, sw_sw, sw_eq, show nI i + 1 = nI (i + 1) from al_add i 1]
      exact e1
    · intro j h1 h2
      by_cases e : j = i
      · rw [e3 j (by omega), e]; exact if_pos rfl
      · exact e2 j (by omega) h2
    · intro j h1
      rw [e3 j (by omega)]; exact if_neg (by omega)
theorem t_tell {h : jh} {m0 : Nat} {s : ms} {v : vw} (R : RowV (s 2) v) (W : WFv v) (p : Nat) (hp : p < 16) : ∃ r t, f_X13_tellSteps m0 (nI p) (pm h m0 s) = some ((), pm h m0 (sw s 21 r)) ∧ TK r t ∧ Bt t ∧ FIN v p t := by
  have hc1 := W.c1
  have hc2 := W.c2
  have h1 := W.pr p hp
  obtain ⟨f0, hf0⟩ := jfu_s
  unfold f_X13_tellSteps
  obtain ⟨r0, e1, e2, -⟩ := t_tell0_l (h := h) (m0 := m0) (s := s) (nI p) (fun y5 y6 h4 => gR h4 y5 11 21 fun v7 => cV h4 y5 11 (f_X13_of y5 y6 3 h4) fun v8 h9 => cV h9 y5 11 (f_X13_of y5 y6 7 h9) fun v10 h11 => cV h11 y5 11 (f_X13_of y5 y6 4 h11) fun v12 h13 => bd (f_X13_state v8 v10 v12 h13) fun v14 h15 => sI h15 v7 v14 0 fun h16 => jlp4 (f_X13_tellSteps_h54 (fun h31 => some ((), h31))) jfu y5 y6 1 0 h16) (jlp3 (f_X13_tellSteps_h2 (fun y5 y6 h4 => gR h4 y5 11 21 fun v7 => cV h4 y5 11 (f_X13_of y5 y6 3 h4) fun v8 h9 => cV h9 y5 11 (f_X13_of y5 y6 7 h9) fun v10 h11 => cV h11 y5 11 (f_X13_of y5 y6 4 h11) fun v12 h13 => bd (f_X13_state v8 v10 v12 h13) fun v14 h15 => sI h15 v7 v14 0 fun h16 => jlp4 (f_X13_tellSteps_h54 (fun h31 => some ((), h31))) jfu y5 y6 1 0 h16))) (fun _ => rfl) 128 0 jfu (s 21) (by omega) (by omega)
  rw [sw_id] at e1
  have R1 : RowV ((sw s 21 r0) 2) v := by rw [sw_ne _ _ _ _ (by decide)]; exact R
  have ek : 8 * (2 * v 3 p + v 7 p) + v 4 p < 128 := by omega
  obtain ⟨r, t, g1, g2, g3, g4⟩ := t_lev_l (h := h) (m0 := m0) R W p hp (jlp4 (f_X13_tellSteps_h54 (fun h31 => some ((), h31)))) (fun _ => rfl) 128 0 jfu (upd r0 (8 * (2 * v 3 p + v 7 p) + v 4 p) (nI 0)) (fun k => if k = 8 * (2 * v 3 p + v 7 p) + v 4 p then 1 else 0) (cnt_le _ _ _) (by omega) (by omega) (by
      intro k hk
      unfold upd
      show _ = stv (if k = _ then 1 else 0)
      by_cases e : k = 8 * (2 * v 3 p + v 7 p) + v 4 p
      · rw [if_pos e, if_pos e]; rfl
      · rw [if_neg e, if_neg e]; exact e2 k (Nat.zero_le _) hk) (by
      intro k
      show (if k = _ then 1 else 0) < 1000
      split <;> omega) (by
      intro u b m hu hb1 hm
      show ((if 16 * u + 8 * b + m = _ then 1 else 0) = 0 ∧ _) ∨ ∃ d, d ≤ 0 ∧ (if 16 * u + 8 * b + m = _ then 1 else 0) = d + 1 ∧ _
      by_cases e : 16 * u + 8 * b + m = 8 * (2 * v 3 p + v 7 p) + v 4 p
      · right
        rw [if_pos e]
        exact ⟨0, Nat.le_refl _, rfl, ⟨by omega, by omega, by omega⟩, fun e he => by omega⟩
      · left
        rw [if_neg e]
        exact ⟨rfl, fun ⟨g1, g2, g3⟩ => e (by omega)⟩) (by
      intro j hj hne
      have hne : (if j = 8 * (2 * v 3 p + v 7 p) + v 4 p then 1 else 0) ≠ 0 := hne
      by_cases e : j = 8 * (2 * v 3 p + v 7 p) + v 4 p
      · omega
      · rw [if_neg e] at hne; exact absurd rfl hne)
  refine ⟨r, t, ?_, g2, g3, g4⟩
  refine Eq.trans e1 ?_
  rw [pm_gR21, pm_cV, show f_X13_of m0 (nI p) 3 (pm h m0 (sw s 21 r0)) = _ from v_of R1 p 3 hp (by decide), bd_some, pm_cV, show f_X13_of m0 (nI p) 7 (pm h m0 (sw s 21 r0)) = _ from v_of R1 p 7 hp (by decide), bd_some, pm_cV, show f_X13_of m0 (nI p) 4 (pm h m0 (sw s 21 r0)) = _ from v_of R1 p 4 hp (by decide), bd_some, r_state, bd_some, wr21 _ _ _ _ _ _ ek, st2_sw, sw_sw, sw_eq]
  exact g1
/-- the least that any state with a mount space took -/
theorem t_steps_l {h : jh} {m0 : Nat} {s : ms} (m : Nat) (hm : m < 8) {t : Nat → Nat} (hT : TK (s 21) t) (hB : Bt t) (L : Nat → Nat → Int32 → Int32 → Int32 → jh → Option (Int32 × jh)) (hL : ∀ f, L (f + 1) = f_X13_stepsTo_h4 (fun y13 h12 => some (y13, h12)) (L f)) : ∀ k i f x, i + k = 128 → k + 1 ≤ f → x < 1000 → ((x = 0 ∧ ∀ j, j < i → j % 8 = m → t j = 0) ∨ (x ≠ 0 ∧ (∃ j, j < i ∧ j % 8 = m ∧ t j = x) ∧ ∀ j, j < i → j % 8 = m → t j ≠ 0 → x ≤ t j)) → ∃ y, L f m0 (nI m) (stv x) (nI i) (pm h m0 s) = some (stv y, pm h m0 s) ∧ y < 1000 ∧ ((y = 0 ∧ ∀ j, j < 128 → j % 8 = m → t j = 0) ∨ (y ≠ 0 ∧ (∃ j, j < 128 ∧ j % 8 = m ∧ t j = y) ∧ ∀ j, j < 128 → j % 8 = m → t j ≠ 0 → y ≤ t j)) := by
  intro k
  induction k with
  | zero =>
    intro i f x hi hf hx hinv
    obtain ⟨f, rfl⟩ : ∃ g, f = g + 1 := ⟨f - 1, by omega⟩
    rw [show i = 128 by omega] at hinv ⊢
    refine ⟨x, ?_, hx, hinv⟩
    rw [hL]
    unfold f_X13_stepsTo_h4
    rw [if_pos (show (128 : Int32) ≤ nI 128 by decide)]
  | succ k ih =>
    intro i f x hi hf hx hinv
    obtain ⟨f, rfl⟩ : ∃ g, f = g + 1 := ⟨f - 1, by omega⟩
    have hi1 : i < 128 := by omega
    have hbi := hB i
    have er := hT i hi1
    have d1 : nI i / 8 = nI (i / 8) := pk_div (a := i) (d := 8) (by omega) (by omega) (by omega)
    have d4 : nI i - nI (i / 8) * 8 = nI (i % 8) := by
      rw [show nI (i / 8) * 8 = nI (i / 8 * 8) from al_mul _ 8, al_sub (by omega), show i - i / 8 * 8 = i % 8 by omega]
    have keep : (i % 8 = m → t i = 0 ∨ (x ≠ 0 ∧ x ≤ t i)) → ∃ y, L f m0 (nI m) (stv x) (nI i + 1) (pm h m0 s) = some (stv y, pm h m0 s) ∧ y < 1000 ∧ ((y = 0 ∧ ∀ j, j < 128 → j % 8 = m → t j = 0) ∨ (y ≠ 0 ∧ (∃ j, j < 128 ∧ j % 8 = m ∧ t j = y) ∧ ∀ j, j < 128 → j % 8 = m → t j ≠ 0 → y ≤ t j)) := by
      intro hk
      rw [show nI i + 1 = nI (i + 1) from al_add i 1]
      refine ih (i + 1) f x (by omega) (by omega) hx ?_
      rcases hinv with ⟨x0, g⟩ | ⟨x0, ⟨j, g1, g2, g3⟩, g4⟩
      · refine Or.inl ⟨x0, fun j hj hm1 => ?_⟩
        by_cases e : j = i
        · rw [e] at hm1 ⊢
          rcases hk hm1 with h0 | h0
          · exact h0
          · exact absurd x0 h0.1
        · exact g j (by omega) hm1
      · refine Or.inr ⟨x0, ⟨j, by omega, g2, g3⟩, fun j hj hm1 hne => ?_⟩
        by_cases e : j = i
        · rw [e] at hm1 hne ⊢
          rcases hk hm1 with h0 | h0
          · exact absurd h0 hne
          · exact h0.2
        · exact g4 j (by omega) hm1 hne
    have take : i % 8 = m → t i ≠ 0 → (x = 0 ∨ t i ≤ x) → ∃ y, f_X13_stepsTo_b43 (L f) (fun y13 h12 => some (y13, h12)) m0 (nI m) (nI i) (pm h m0 s) = some (stv y, pm h m0 s) ∧ y < 1000 ∧ ((y = 0 ∧ ∀ j, j < 128 → j % 8 = m → t j = 0) ∨ (y ≠ 0 ∧ (∃ j, j < 128 ∧ j % 8 = m ∧ t j = y) ∧ ∀ j, j < 128 → j % 8 = m → t j ≠ 0 → y ≤ t j)) := by
      intro hm1 hne hle
      unfold f_X13_stepsTo_b43
      rw [pm_gR21, rd21 _ _ _ _ _ hi1, er, show nI i + 1 = nI (i + 1) from al_add i 1]
      refine ih (i + 1) f (t i) (by omega) (by omega) hbi (Or.inr ⟨hne, ⟨i, by omega, hm1, rfl⟩, fun j hj hj1 hj2 => ?_⟩)
      by_cases e : j = i
      · rw [e]; exact Nat.le_refl _
      · rcases hinv with ⟨x0, g⟩ | ⟨x0, -, g4⟩
        · exact absurd (g j (by omega) hj1) hj2
        · have := g4 j (by omega) hj1 hj2
          rcases hle with h0 | h0
          · exact absurd h0 x0
          · omega
    rw [hL]
    unfold f_X13_stepsTo_h4
    rw [if_neg (show ¬ (128 : Int32) ≤ nI i by rw [show (128 : Int32) = nI 128 from rfl, al_le (by omega) (by omega)]; omega), d1, d4]
    by_cases hm1 : i % 8 = m
    · rw [if_neg (not_not_intro (by rw [hm1])), pm_gR21, rd21 _ _ _ _ _ hi1, er]
      by_cases h0 : t i = 0
      · rw [if_pos (show stv (t i) < 0 by rw [show (0 : Int32) = nI 0 from rfl, stv_lt (by omega)]; exact h0)]
        exact keep (fun _ => Or.inl h0)
      · rw [if_neg (show ¬ stv (t i) < 0 by rw [show (0 : Int32) = nI 0 from rfl, stv_lt (by omega)]; exact h0)]
        by_cases hx0 : x = 0
        · rw [if_pos (show stv x = -1 by rw [show (-1 : Int32) = nm1 from rfl, stv_m1 (by omega)]; exact hx0)]
          exact take hm1 h0 (Or.inl hx0)
        · rw [if_neg (show ¬ stv x = -1 by rw [show (-1 : Int32) = nm1 from rfl, stv_m1 (by omega)]; exact hx0), pm_gR21, rd21 _ _ _ _ _ hi1, er]
          by_cases hle : x ≤ t i
          · rw [if_pos (by rw [stv_le (by omega) (by omega) hx0 h0]; exact hle)]
            exact keep (fun _ => Or.inr ⟨hx0, hle⟩)
          · rw [if_neg (by rw [stv_le (by omega) (by omega) hx0 h0]; exact hle)]
            exact take hm1 h0 (Or.inr (by omega))
    · rw [if_pos (by rw [al_eq (by omega) (by omega)]; exact hm1)]
      exact keep (fun e => absurd e hm1)
theorem t_steps {h : jh} {m0 : Nat} {s : ms} {v : vw} (W : WFv v) (p m : Nat) (hp : p < 16) (hm : m < 8) {t : Nat → Nat} (hT : TK (s 21) t) (hB : Bt t) (hF : FIN v p t) : f_X13_stepsTo m0 (nI m) (pm h m0 s) = some (stv (stp v p m), pm h m0 s) ∧ stp v p m < 1000 := by
  obtain ⟨f0, hf0⟩ := jfu_s
  obtain ⟨y, e, hy, g⟩ := t_steps_l (h := h) (m0 := m0) m hm hT hB (jlp4 (f_X13_stepsTo_h4 (fun y13 h12 => some (y13, h12)))) (fun _ => rfl) 128 0 jfu 0 (by omega) (by omega) (by omega) (Or.inl ⟨rfl, fun j hj => by omega⟩)
  have hA : ANS v p m y := by
    rcases g with ⟨y0, g⟩ | ⟨y0, ⟨j, g1, g2, g3⟩, g4⟩
    · refine Or.inl ⟨y0, ?_⟩
      rintro n ⟨u, b, hw⟩
      obtain ⟨c1, c2, c3⟩ := WR_b W hp n u b m hw
      have e0 := g (16 * u + 8 * b + m) (by omega) (by omega)
      rcases hF u b m c1 c2 c3 with ⟨-, hno⟩ | ⟨d, e1, -⟩
      · exact hno n hw
      · omega
    · right
      have ej : j = 16 * (j / 16) + 8 * (j / 8 % 2) + m := by omega
      rcases hF (j / 16) (j / 8 % 2) m (by omega) (by omega) hm with ⟨e0, -⟩ | ⟨d, e1, hw, hl⟩
      · rw [← ej] at e0; omega
      · rw [← ej] at e1
        refine ⟨d, by omega, ⟨_, _, hw⟩, ?_⟩
        rintro k hk ⟨u, b, hw2⟩
        obtain ⟨c1, c2, c3⟩ := WR_b W hp k u b m hw2
        rcases hF u b m c1 c2 c3 with ⟨-, hno⟩ | ⟨d2, e2, -, hl2⟩
        · exact hno k hw2
        · have := g4 (16 * u + 8 * b + m) (by omega) (by omega) (by omega)
          exact hl2 k (by omega) hw2
  rw [stp_eq hA]
  exact ⟨e, hy⟩
