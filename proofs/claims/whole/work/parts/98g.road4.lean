/-! roads: the class's stands -/
def ow (v : vw) (p st : Nat) : Nat := if st = 8 then v 3 p else st
def bs (v : vw) (p st : Nat) : Nat := if st = 8 then v 7 p else 1
def WS (v : vw) (p : Nat) : Nat → Nat → Prop
  | 0, st => st = 8
  | n + 1, st => WS v p n st ∨ (st < 8 ∧ ∃ st', WS v p n st' ∧ mvU v p (ow v p st') (decide (bs v p st' = 1)) st)
theorem WS_le {v : vw} {p n st : Nat} (h : WS v p n st) : ∀ k, n ≤ k → WS v p k st := by
  intro k
  induction k with
  | zero => intro hk; rw [show n = 0 by omega] at h; exact h
  | succ k ih =>
    intro hk
    by_cases e : n = k + 1
    · rw [← e]; exact h
    · exact Or.inl (ih (by omega))
theorem WS_8 {v : vw} {p : Nat} : ∀ n st, WS v p n st → st ≤ 8 := by
  intro n
  induction n with
  | zero => intro st h; exact Nat.le_of_eq h
  | succ n ih =>
    rintro st (h | ⟨h, -⟩)
    · exact ih st h
    · omega
theorem WS_A {v : vw} {p : Nat} : ∀ n st, WS v p n st → WR v p n (ow v p st) (bs v p st) (v 4 p) := by
  intro n
  induction n with
  | zero =>
    intro st h
    have h : st = 8 := h
    subst h
    exact ⟨if_pos rfl, if_pos rfl, rfl⟩
  | succ n ih =>
    rintro st (h | ⟨h, st', h1, h2⟩)
    · exact WR_s (ih st h)
    · have e1 : ow v p st = st := if_neg (by omega)
      have e2 : bs v p st = 1 := if_neg (by omega)
      rw [e1, e2]
      exact Or.inr (Or.inl ⟨_, _, ih st' h1, h2, rfl⟩)
theorem WS_M {v : vw} {p n st m : Nat} (h : WS v p n st) (hm : mvM v p (ow v p st) (decide (bs v p st = 1)) m) (hne : m ≠ v 4 p) : Rm v p (n + 1) m := ⟨_, _, Or.inr (Or.inr ⟨v 4 p, WS_A n st h, hne, hm⟩)⟩
theorem WS_B {v : vw} (W : WFv v) {p : Nat} : ∀ n u b m, WR v p n u b m → (∃ st, WS v p n st ∧ ow v p st = u ∧ bs v p st = b) ∧ (m = v 4 p ∨ ∃ e st, e + 1 ≤ n ∧ WS v p e st ∧ mvM v p (ow v p st) (decide (bs v p st = 1)) m) := by
  have hc1 := W.c1
  intro n
  induction n with
  | zero =>
    rintro u b m ⟨rfl, rfl, rfl⟩
    exact ⟨⟨8, rfl, if_pos rfl, if_pos rfl⟩, Or.inl rfl⟩
  | succ n ih =>
    rintro u b m (h | ⟨u', b', h, hmv, rfl⟩ | ⟨m', h, hne, hmv⟩)
    · obtain ⟨⟨st, g1, g2⟩, g3⟩ := ih u b m h
      refine ⟨⟨st, Or.inl g1, g2⟩, ?_⟩
      rcases g3 with g3 | ⟨e, st, g3, g4⟩
      · exact Or.inl g3
      · exact Or.inr ⟨e, st, by omega, g4⟩
    · obtain ⟨⟨st, g1, g2, g2'⟩, g3⟩ := ih u' b' m h
      have hu : u < 8 := by
        obtain ⟨q, hq, -, e, -⟩ := hmv
        have := W.pr q hq
        omega
      refine ⟨⟨u, Or.inr ⟨hu, st, g1, by rw [g2, g2']; exact hmv⟩, if_neg (by omega), if_neg (by omega)⟩, ?_⟩
      rcases g3 with g3 | ⟨e, st, g3, g4⟩
      · exact Or.inl g3
      · exact Or.inr ⟨e, st, by omega, g4⟩
    · obtain ⟨⟨st, g1, g2, g2'⟩, g3⟩ := ih u b m' h
      refine ⟨⟨st, Or.inl g1, g2, g2'⟩, Or.inr ⟨n, st, Nat.le_refl _, g1, ?_⟩⟩
      rw [g2, g2']
      exact hmv
def BI (v : vw) (p : Nat) (i : Nat) (c : Nat) (d : Nat → Nat) (Q : Nat → Nat) (x : Nat → Nat) : Prop :=
  (i ≤ c ∧ 1 ≤ c) ∧
  (∀ j, j < c → Q j ≤ 8 ∧ d (Q j) ≠ 0) ∧
  (∀ st, st ≤ 8 → d st ≠ 0 → ∃ j, j < c ∧ Q j = st) ∧
  (∀ st, st ≤ 8 → d st ≠ 0 → WS v p (d st - 1) st) ∧
  (∀ j k, j ≤ k → k < c → d (Q j) ≤ d (Q k)) ∧
  (i < c → ∀ k, k < c → d (Q k) ≤ d (Q i) + 1) ∧
  (∀ j, j < i → ∀ st, st < 8 → mvU v p (ow v p (Q j)) (decide (bs v p (Q j) = 1)) st → d st ≠ 0 ∧ d st ≤ d (Q j) + 1) ∧
  (x (v 4 p) = 1) ∧
  (∀ m, m < 8 → m ≠ v 4 p → x m ≠ 0 → ∃ st e, WS v p e st ∧ mvM v p (ow v p st) (decide (bs v p st = 1)) m ∧ x m = e + 2) ∧
  (∀ j, j < i → ∀ m, m < 8 → mvM v p (ow v p (Q j)) (decide (bs v p (Q j) = 1)) m → x m ≠ 0 ∧ x m ≤ d (Q j) + 1) ∧
  (i < c → ∀ m, m < 8 → x m ≠ 0 → x m ≤ d (Q i) + 1) ∧
  (d 8 = 1) ∧
  ((∀ st, d st ≤ i + 1) ∧ ∀ m, x m ≤ i + 1)
theorem BI.le {v : vw} {p : Nat} {i : Nat} {c : Nat} {d : Nat → Nat} {Q : Nat → Nat} {x : Nat → Nat} (R : BI v p i c d Q x) : i ≤ c ∧ 1 ≤ c := R.1
theorem BI.qd {v : vw} {p : Nat} {i : Nat} {c : Nat} {d : Nat → Nat} {Q : Nat → Nat} {x : Nat → Nat} (R : BI v p i c d Q x) : ∀ j, j < c → Q j ≤ 8 ∧ d (Q j) ≠ 0 := R.2.1
theorem BI.dq {v : vw} {p : Nat} {i : Nat} {c : Nat} {d : Nat → Nat} {Q : Nat → Nat} {x : Nat → Nat} (R : BI v p i c d Q x) : ∀ st, st ≤ 8 → d st ≠ 0 → ∃ j, j < c ∧ Q j = st := R.2.2.1
theorem BI.sd {v : vw} {p : Nat} {i : Nat} {c : Nat} {d : Nat → Nat} {Q : Nat → Nat} {x : Nat → Nat} (R : BI v p i c d Q x) : ∀ st, st ≤ 8 → d st ≠ 0 → WS v p (d st - 1) st := R.2.2.2.1
theorem BI.mo {v : vw} {p : Nat} {i : Nat} {c : Nat} {d : Nat → Nat} {Q : Nat → Nat} {x : Nat → Nat} (R : BI v p i c d Q x) : ∀ j k, j ≤ k → k < c → d (Q j) ≤ d (Q k) := R.2.2.2.2.1
theorem BI.m1 {v : vw} {p : Nat} {i : Nat} {c : Nat} {d : Nat → Nat} {Q : Nat → Nat} {x : Nat → Nat} (R : BI v p i c d Q x) : i < c → ∀ k, k < c → d (Q k) ≤ d (Q i) + 1 := R.2.2.2.2.2.1
theorem BI.cp {v : vw} {p : Nat} {i : Nat} {c : Nat} {d : Nat → Nat} {Q : Nat → Nat} {x : Nat → Nat} (R : BI v p i c d Q x) : ∀ j, j < i → ∀ st, st < 8 → mvU v p (ow v p (Q j)) (decide (bs v p (Q j) = 1)) st → d st ≠ 0 ∧ d st ≤ d (Q j) + 1 := R.2.2.2.2.2.2.1
theorem BI.x0 {v : vw} {p : Nat} {i : Nat} {c : Nat} {d : Nat → Nat} {Q : Nat → Nat} {x : Nat → Nat} (R : BI v p i c d Q x) : x (v 4 p) = 1 := R.2.2.2.2.2.2.2.1
theorem BI.xs {v : vw} {p : Nat} {i : Nat} {c : Nat} {d : Nat → Nat} {Q : Nat → Nat} {x : Nat → Nat} (R : BI v p i c d Q x) : ∀ m, m < 8 → m ≠ v 4 p → x m ≠ 0 → ∃ st e, WS v p e st ∧ mvM v p (ow v p st) (decide (bs v p st = 1)) m ∧ x m = e + 2 := R.2.2.2.2.2.2.2.2.1
theorem BI.xc {v : vw} {p : Nat} {i : Nat} {c : Nat} {d : Nat → Nat} {Q : Nat → Nat} {x : Nat → Nat} (R : BI v p i c d Q x) : ∀ j, j < i → ∀ m, m < 8 → mvM v p (ow v p (Q j)) (decide (bs v p (Q j) = 1)) m → x m ≠ 0 ∧ x m ≤ d (Q j) + 1 := R.2.2.2.2.2.2.2.2.2.1
theorem BI.xi {v : vw} {p : Nat} {i : Nat} {c : Nat} {d : Nat → Nat} {Q : Nat → Nat} {x : Nat → Nat} (R : BI v p i c d Q x) : i < c → ∀ m, m < 8 → x m ≠ 0 → x m ≤ d (Q i) + 1 := R.2.2.2.2.2.2.2.2.2.2.1
theorem BI.d8 {v : vw} {p : Nat} {i : Nat} {c : Nat} {d : Nat → Nat} {Q : Nat → Nat} {x : Nat → Nat} (R : BI v p i c d Q x) : d 8 = 1 := R.2.2.2.2.2.2.2.2.2.2.2.1
theorem BI.bd {v : vw} {p : Nat} {i : Nat} {c : Nat} {d : Nat → Nat} {Q : Nat → Nat} {x : Nat → Nat} (R : BI v p i c d Q x) : (∀ st, d st ≤ i + 1) ∧ ∀ m, x m ≤ i + 1 := R.2.2.2.2.2.2.2.2.2.2.2.2
def QX (c : Nat) (Q d : Nat → Nat) (c' : Nat) (Q' d' : Nat → Nat) (n : Nat) : Prop := c ≤ c' ∧ (∀ j, j < c → Q' j = Q j) ∧ (∀ j, c ≤ j → j < c' → Q' j ≤ 8 ∧ d' (Q' j) = n) ∧ ∀ st, st ≤ 8 → d' st ≠ 0 → d st = 0 → ∃ j, c ≤ j ∧ j < c' ∧ Q' j = st
theorem QX_id (c : Nat) (Q d : Nat → Nat) (n : Nat) : QX c Q d c Q d n := ⟨Nat.le_refl _, fun _ _ => rfl, fun j h1 h2 => by omega, fun st _ h1 h2 => absurd h2 h1⟩
theorem QX_tr {c c1 c2 : Nat} {Q Q1 Q2 d d1 d2 : Nat → Nat} {n : Nat} {X : Nat → Prop} (hn : n ≠ 0) (h1 : QX c Q d c1 Q1 d1 n) (h2 : QX c1 Q1 d1 c2 Q2 d2 n) (A : ADD d1 n X d2) : QX c Q d c2 Q2 d2 n := by
  obtain ⟨a1, a2, a3, a4⟩ := h1
  obtain ⟨b1, b2, b3, b4⟩ := h2
  refine ⟨by omega, fun j hj => by rw [b2 j (by omega), a2 j hj], fun j g1 g2 => ?_, fun st hs g1 g2 => ?_⟩
  · by_cases e : j < c1
    · obtain ⟨g3, g4⟩ := a3 j g1 e
      rw [b2 j e]
      exact ⟨g3, by rw [(A _).1 (by omega)]; exact g4⟩
    · exact b3 j (by omega) g2
  · by_cases e : d1 st = 0
    · obtain ⟨j, k1, k2, k3⟩ := b4 st hs g1 e
      exact ⟨j, by omega, k2, k3⟩
    · obtain ⟨j, k1, k2, k3⟩ := a4 st hs e g2
      exact ⟨j, k1, by omega, by rw [b2 j k2]; exact k3⟩
theorem BI_s {v : vw} (W : WFv v) {p i c c' : Nat} {d Q x d' Q' x' : Nat → Nat} (B : BI v p i c d Q x) (hi : i < c) (A : ADD d (d (Q i) + 1) (mvU v p (ow v p (Q i)) (decide (bs v p (Q i) = 1))) d') (hQ : QX c Q d c' Q' d' (d (Q i) + 1)) (Y : ADD x (d (Q i) + 1) (mvM v p (ow v p (Q i)) (decide (bs v p (Q i) = 1))) x') : BI v p (i + 1) c' d' Q' x' := by
  have hc1 := W.c1
  obtain ⟨q1, q2, q3, q4⟩ := hQ
  have hqi := B.qd i hi
  have hbd := B.bd
  have old : ∀ j, j < c → Q' j = Q j ∧ d' (Q j) = d (Q j) := fun j hj => ⟨q2 j hj, (A _).1 (B.qd j hj).2⟩
  have dn : ∀ k, k < c' → d' (Q' k) ≤ d (Q i) + 1 := by
    intro k hk
    by_cases e : k < c
    · rw [(old k e).1, (old k e).2]; exact B.m1 hi k e
    · rw [(q3 k (by omega) hk).2]; exact Nat.le_refl _
  have nx : i + 1 < c' → d (Q i) ≤ d' (Q' (i + 1)) := by
    intro hk
    by_cases e : i + 1 < c
    · rw [(old _ e).1, (old _ e).2]; exact B.mo i (i + 1) (by omega) e
    · rw [(q3 _ (by omega) hk).2]; omega
  have xn : ∀ m, m < 8 → x' m ≠ 0 → x' m ≤ d (Q i) + 1 := by
    intro m hm hx
    by_cases e : x m = 0
    · by_cases hy : mvM v p (ow v p (Q i)) (decide (bs v p (Q i) = 1)) m
      · rw [(Y m).2.1 e hy]; exact Nat.le_refl _
      · exact absurd ((Y m).2.2 e hy) hx
    · rw [(Y m).1 e]; exact B.xi hi m hm e
  refine ⟨by omega, ?_, ?_, ?_, ?_, ?_, ?_, ?_, ?_, ?_, ?_, ?_, ?_⟩
  · intro j hj
    by_cases e : j < c
    · rw [(old j e).1, (old j e).2]; exact B.qd j e
    · have := q3 j (by omega) hj
      exact ⟨this.1, by omega⟩
  · intro st hs hd
    by_cases e : d st = 0
    · obtain ⟨j, -, k2, k3⟩ := q4 st hs hd e
      exact ⟨j, k2, k3⟩
    · obtain ⟨j, k1, k2⟩ := B.dq st hs e
      exact ⟨j, by omega, by rw [(old j k1).1]; exact k2⟩
  · intro st hs hd
    by_cases e : d st = 0
    · by_cases hx : mvU v p (ow v p (Q i)) (decide (bs v p (Q i) = 1)) st
      · rw [(A st).2.1 e hx]
        have hst : st < 8 := by
          obtain ⟨q, hq, -, e, -⟩ := hx
          have := W.pr q hq
          omega
        have := B.sd (Q i) hqi.1 hqi.2
        obtain ⟨y, hy⟩ : ∃ y, d (Q i) = y + 1 := ⟨d (Q i) - 1, by omega⟩
        rw [hy] at this ⊢
        exact Or.inr ⟨hst, Q i, this, hx⟩
      · exact absurd ((A st).2.2 e hx) hd
    · rw [(A st).1 e]; exact B.sd st hs e
  · intro j k hjk hk
    by_cases e : k < c
    · rw [(old k e).1, (old k e).2, (old j (by omega)).1, (old j (by omega)).2]; exact B.mo j k hjk e
    · rw [(q3 k (by omega) hk).2]
      exact dn j (by omega)
  · intro hk k hkc
    have := dn k hkc
    have := nx hk
    omega
  · intro j hj st hst hmv
    by_cases e : j = i
    · subst e
      rw [(old j hi).1] at hmv ⊢
      rw [(old j hi).2]
      by_cases e : d st = 0
      · rw [(A st).2.1 e hmv]; omega
      · rw [(A st).1 e]
        obtain ⟨k, k1, k2⟩ := B.dq st (by omega) e
        have := B.m1 hi k k1
        rw [k2] at this
        exact ⟨e, this⟩
    · rw [(old j (by omega)).1] at hmv ⊢
      rw [(old j (by omega)).2]
      have := B.cp j (by omega) st hst hmv
      rw [(A st).1 this.1]
      exact this
  · rw [(Y _).1 (by rw [B.x0]; decide)]; exact B.x0
  · intro m hm hne hx
    by_cases e : x m = 0
    · by_cases hy : mvM v p (ow v p (Q i)) (decide (bs v p (Q i) = 1)) m
      · have := B.sd (Q i) hqi.1 hqi.2
        exact ⟨Q i, d (Q i) - 1, this, hy, by rw [(Y m).2.1 e hy]; omega⟩
      · exact absurd ((Y m).2.2 e hy) hx
    · rw [(Y m).1 e]; exact B.xs m hm hne e
  · intro j hj m hm hmv
    by_cases e : j = i
    · subst e
      rw [(old j hi).1] at hmv ⊢
      rw [(old j hi).2]
      by_cases e : x m = 0
      · rw [(Y m).2.1 e hmv]; omega
      · rw [(Y m).1 e]
        exact ⟨e, B.xi hi m hm e⟩
    · rw [(old j (by omega)).1] at hmv ⊢
      rw [(old j (by omega)).2]
      have := B.xc j (by omega) m hm hmv
      rw [(Y m).1 this.1]
      exact this
  · intro hk m hm hx
    have := xn m hm hx
    have := nx hk
    omega
  · rw [(A 8).1 (by rw [B.d8]; decide)]; exact B.d8
  · refine ⟨fun st => ?_, fun m => ?_⟩
    · have h1 := hbd.1 (Q i)
      have h2 := hbd.1 st
      by_cases e : d st = 0
      · by_cases hx : mvU v p (ow v p (Q i)) (decide (bs v p (Q i) = 1)) st
        · rw [(A st).2.1 e hx]; omega
        · rw [(A st).2.2 e hx]; omega
      · rw [(A st).1 e]; omega
    · have h1 := hbd.1 (Q i)
      have h2 := hbd.2 m
      by_cases e : x m = 0
      · by_cases hy : mvM v p (ow v p (Q i)) (decide (bs v p (Q i) = 1)) m
        · rw [(Y m).2.1 e hy]; omega
        · rw [(Y m).2.2 e hy]; omega
      · rw [(Y m).1 e]; omega
theorem BI_f {v : vw} (W : WFv v) {p c : Nat} {d Q x : Nat → Nat} (B : BI v p c c d Q x) (m : Nat) (hm : m < 8) : ANS v p m (x m) := by
  have cmp : ∀ e st, WS v p e st → d st ≠ 0 ∧ d st ≤ e + 1 := by
    intro e
    induction e with
    | zero =>
      intro st h
      have h : st = 8 := h
      rw [h, B.d8]
      omega
    | succ e ih =>
      rintro st (h | ⟨h, st', h1, h2⟩)
      · have := ih st h; omega
      · have g := ih st' h1
        obtain ⟨j, k1, k2⟩ := B.dq st' (WS_8 e st' h1) g.1
        have := B.cp j k1 st h (by rw [k2]; exact h2)
        rw [k2] at this
        omega
  have cmx : ∀ e st, WS v p e st → mvM v p (ow v p st) (decide (bs v p st = 1)) m → x m ≠ 0 ∧ x m ≤ e + 2 := by
    intro e st h1 h2
    have g := cmp e st h1
    obtain ⟨j, k1, k2⟩ := B.dq st (WS_8 e st h1) g.1
    have := B.xc j k1 m hm (by rw [k2]; exact h2)
    rw [k2] at this
    omega
  by_cases h0 : m = v 4 p
  · right
    refine ⟨0, by rw [h0]; exact B.x0, ⟨v 3 p, v 7 p, rfl, rfl, h0⟩, fun e he => by omega⟩
  · by_cases hx : x m = 0
    · refine Or.inl ⟨hx, ?_⟩
      rintro n ⟨u, b, hw⟩
      rcases (WS_B W n u b m hw).2 with g | ⟨e, st, g1, g2, g3⟩
      · exact h0 g
      · exact (cmx e st g2 g3).1 hx
    · right
      obtain ⟨st, e, g1, g2, g3⟩ := B.xs m hm h0 hx
      refine ⟨e + 1, g3, WS_M g1 g2 h0, ?_⟩
      rintro k hk ⟨u, b, hw⟩
      rcases (WS_B W k u b m hw).2 with g | ⟨e', st', k1, k2, k3⟩
      · exact h0 g
      · have := (cmx e' st' k2 k3).2
        omega
