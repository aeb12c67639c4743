/-! roads: walks, and the reference's way of telling steps -/
def okq (v : vw) (p q : Nat) : Bool := decide (v 0 q = 1) && (decide (q ≠ p) && sesV v p q)
/-- an entering of a user space, of a mount space, by one in space u, with power or not -/
def mvU (v : vw) (p u : Nat) (b : Bool) (t : Nat) : Prop := ∃ q, q < 16 ∧ okq v p q = true ∧ v 3 q = t ∧ t ≠ u ∧ ovr v u (v 6 p) b (ch v 1 t) = true
def mvM (v : vw) (p u : Nat) (b : Bool) (t : Nat) : Prop := b = true ∧ ∃ q, q < 16 ∧ okq v p q = true ∧ v 4 q = t ∧ ovr v u (v 6 p) true (ch v 1 (v 42 t)) = true
/-- reached within n enterings -/
def WR (v : vw) (p : Nat) : Nat → Nat → Nat → Nat → Prop
  | 0, u, b, m => u = v 3 p ∧ b = v 7 p ∧ m = v 4 p
  | n + 1, u, b, m => WR v p n u b m ∨ (∃ u' b', WR v p n u' b' m ∧ mvU v p u' (decide (b' = 1)) u ∧ b = 1) ∨ (∃ m', WR v p n u b m' ∧ m ≠ m' ∧ mvM v p u (decide (b = 1)) m)
theorem WR_s {v : vw} {p n u b m : Nat} (h : WR v p n u b m) : WR v p (n + 1) u b m := Or.inl h
theorem WR_le {v : vw} {p n u b m : Nat} (h : WR v p n u b m) : ∀ k, n ≤ k → WR v p k u b m := by
  intro k
  induction k with
  | zero => intro hk; rw [show n = 0 by omega] at h; exact h
  | succ k ih =>
    intro hk
    by_cases e : n = k + 1
    · rw [← e]; exact h
    · exact WR_s (ih (by omega))
theorem WR_b {v : vw} (W : WFv v) {p : Nat} (hp : p < 16) : ∀ n u b m, WR v p n u b m → u < 8 ∧ b ≤ 1 ∧ m < 8 := by
  have hc1 := W.c1
  have hc2 := W.c2
  intro n
  induction n with
  | zero =>
    rintro u b m ⟨rfl, rfl, rfl⟩
    have := W.pr p hp
    omega
  | succ n ih =>
    rintro u b m (h | ⟨u', b', h1, ⟨q, hq, -, e, -⟩, rfl⟩ | ⟨m', h1, -, -, q, hq, -, e, -⟩)
    · exact ih _ _ _ h
    · have := ih _ _ _ h1
      have := W.pr q hq
      omega
    · have := ih _ _ _ h1
      have := W.pr q hq
      omega
/-- the answer: none (0), or n + 1 where n is the least -/
def Rm (v : vw) (p n m : Nat) : Prop := ∃ u b, WR v p n u b m
def ANS (v : vw) (p m x : Nat) : Prop := (x = 0 ∧ ∀ n, ¬ Rm v p n m) ∨ (∃ n, x = n + 1 ∧ Rm v p n m ∧ ∀ e, e < n → ¬ Rm v p e m)
theorem ANS_u {v : vw} {p m x y : Nat} (h1 : ANS v p m x) (h2 : ANS v p m y) : x = y := by
  rcases h1 with ⟨rfl, h1⟩ | ⟨n, rfl, a1, a2⟩
  · rcases h2 with ⟨rfl, -⟩ | ⟨k, rfl, b1, -⟩
    · rfl
    · exact absurd b1 (h1 k)
  · rcases h2 with ⟨rfl, h2⟩ | ⟨k, rfl, b1, b2⟩
    · exact absurd a1 (h2 n)
    · have h3 : ¬ n < k := fun h => b2 n h a1
      have h4 : ¬ k < n := fun h => a2 k h b1
      omega
noncomputable def stp (v : vw) (p m : Nat) : Nat := Classical.epsilon (fun x => ANS v p m x)
theorem stp_eq {v : vw} {p m x : Nat} (h : ANS v p m x) : stp v p m = x := ANS_u (Classical.epsilon_spec (p := fun x => ANS v p m x) ⟨x, h⟩) h
def stv (x : Nat) : Int32 := if x = 0 then nm1 else nI (x - 1)
theorem stv_m1 {x : Nat} (h : x < 100000) : (stv x = nm1) = (x = 0) := by
  unfold stv
  by_cases h0 : x = 0
  · simp [h0]
  · rw [if_neg h0, nm1_ne (by omega)]; simp [h0]
theorem stv_lt {x : Nat} (h : x < 100000) : (stv x < nI 0) = (x = 0) := by
  unfold stv
  by_cases h0 : x = 0
  · rw [if_pos h0]; simp only [h0]; exact propext ⟨fun _ => trivial, fun _ => by decide⟩
  · rw [if_neg h0, al_lt (by omega) (by omega)]; simp only [h0]; exact propext ⟨fun h => by omega, fun h => h.elim⟩
theorem stv_nI {x n : Nat} (h : x < 100000) (hn : n < 100000) : (stv x = nI n) = (x = n + 1) := by
  unfold stv
  by_cases h0 : x = 0
  · rw [if_pos h0, nm1_ne' (by omega)]; exact propext ⟨fun h => h.elim, fun h => by omega⟩
  · rw [if_neg h0, al_eq (by omega) (by omega)]; exact propext ⟨fun h => by omega, fun h => by omega⟩
theorem stv_le {x y : Nat} (hx : x < 100000) (hy : y < 100000) (x0 : x ≠ 0) (y0 : y ≠ 0) : (stv x ≤ stv y) = (x ≤ y) := by
  unfold stv
  rw [if_neg x0, if_neg y0, al_le (by omega) (by omega)]
  exact propext ⟨fun h => by omega, fun h => by omega⟩
/-! steps told: t k is 0 (not reached) or steps + 1 -/
def ADD (t : Nat → Nat) (n : Nat) (X : Nat → Prop) (t' : Nat → Nat) : Prop := ∀ j, (t j ≠ 0 → t' j = t j) ∧ (t j = 0 → X j → t' j = n) ∧ (t j = 0 → ¬ X j → t' j = 0)
def FL (t t' : Nat → Nat) (b : Bool) : Prop := b = true ↔ ∃ j, j < 128 ∧ t j = 0 ∧ t' j ≠ 0
theorem ADD_id (t : Nat → Nat) (n : Nat) (X : Nat → Prop) (h : ∀ j, ¬ X j) : ADD t n X t := fun j => ⟨fun _ => rfl, fun _ hx => absurd hx (h j), fun e _ => e⟩
theorem ADD_tr {t t1 t2 : Nat → Nat} {n : Nat} {X Y Z : Nat → Prop} (hn : n ≠ 0) (h1 : ADD t n X t1) (h2 : ADD t1 n Y t2) (hz : ∀ j, Z j ↔ (X j ∨ Y j)) : ADD t n Z t2 := by
  intro j
  obtain ⟨a1, a2, a3⟩ := h1 j
  obtain ⟨b1, b2, b3⟩ := h2 j
  refine ⟨fun h => ?_, fun h hz1 => ?_, fun h hz1 => ?_⟩
  · have := a1 h
    rw [b1 (by omega), this]
  · by_cases hx : X j
    · have := a2 h hx
      rw [b1 (by omega), this]
    · have h3 := a3 h hx
      rcases (hz j).mp hz1 with h4 | h4
      · exact absurd h4 hx
      · exact b2 h3 h4
  · have h3 := a3 h (fun hx => hz1 ((hz j).mpr (Or.inl hx)))
    exact b3 h3 (fun hy => hz1 ((hz j).mpr (Or.inr hy)))
theorem FL_tr {t t1 t2 : Nat → Nat} {n : Nat} {X Y : Nat → Prop} {b c : Bool} (hn : n ≠ 0) (h1 : ADD t n X t1) (h2 : ADD t1 n Y t2) (f1 : FL t t1 b) (f2 : FL t1 t2 c) : FL t t2 (b || c) := by
  unfold FL at *
  rw [Bool.or_eq_true, f1, f2]
  constructor
  · rintro (⟨j, hj, e1, e2⟩ | ⟨j, hj, e1, e2⟩)
    · exact ⟨j, hj, e1, by rw [(h2 j).1 e2]; exact e2⟩
    · refine ⟨j, hj, ?_, e2⟩
      by_cases h : t j = 0
      · exact h
      · rw [(h1 j).1 h] at e1; exact absurd e1 h
  · rintro ⟨j, hj, e1, e2⟩
    by_cases h : t1 j = 0
    · exact Or.inr ⟨j, hj, h, e2⟩
    · exact Or.inl ⟨j, hj, e1, h⟩
theorem FL_id (t : Nat → Nat) : FL t t false := Iff.intro (fun h => by cases h) (fun ⟨_, _, e1, e2⟩ => absurd e1 e2)
def TK (r : Nat → Int32) (t : Nat → Nat) : Prop := ∀ k, k < 128 → r k = stv (t k)
def Bt (t : Nat → Nat) : Prop := ∀ k, t k < 1000
theorem Bt_add {t t' : Nat → Nat} {n : Nat} {X : Nat → Prop} (h : Bt t) (hn : n < 1000) (A : ADD t n X t') (hx : ∀ j, X j ∨ ¬ X j) : Bt t' := by
  intro k
  obtain ⟨a1, a2, a3⟩ := A k
  by_cases h0 : t k = 0
  · rcases hx k with h1 | h1
    · rw [a2 h0 h1]; exact hn
    · rw [a3 h0 h1]; omega
  · rw [a1 h0]; exact h k
/-- one who comes to a state -/
theorem t_comes {h : jh} {m : Nat} {s : ms} {r : Nat → Int32} {t : Nat → Nat} (hT : TK r t) (hB : Bt t) (k n : Nat) (hk : k < 128) (hn : n < 500) : ∃ r' t' b, f_X13_comesTo m (nI k) (nI n) (pm h m (sw s 21 r)) = some (bn b, pm h m (sw s 21 r')) ∧ TK r' t' ∧ ADD t (n + 1) (fun j => j = k) t' ∧ FL t t' b := by
  unfold f_X13_comesTo
  have e : sw s 21 r 21 k = stv (t k) := by rw [sw_eq]; exact hT k hk
  have hb0 := hB k
  simp only [al_lit, pm_gR21, rd21 _ _ _ _ _ hk, e, wr21 _ _ _ _ _ _ hk, st2_sw, sw_sw, sw_eq]
  have e9 := stv_lt (x := t k) (by omega)
  by_cases h0 : t k = 0
  · rw [if_pos (by rw [e9]; exact h0)]
    refine ⟨_, fun j => if j = k then n + 1 else t j, true, rfl, ?_, ?_, ?_⟩
    · intro j hj
      show upd r k (nI n) j = stv (if j = k then n + 1 else t j)
      unfold upd
      by_cases h1 : j = k
      · rw [if_pos h1, if_pos h1]; rfl
      · rw [if_neg h1, if_neg h1]; exact hT j hj
    · intro j
      refine ⟨fun h1 => if_neg (fun e => h1 (by rw [e]; exact h0)), fun _ h2 => if_pos h2, fun h1 h2 => (if_neg h2).trans h1⟩
    · refine ⟨fun _ => ⟨k, hk, h0, by show (if k = k then n + 1 else t k) ≠ 0; rw [if_pos rfl]; omega⟩, fun _ => rfl⟩
  · rw [if_neg (by rw [e9]; exact h0)]
    refine ⟨r, t, false, rfl, hT, ?_, FL_id t⟩
    intro j
    refine ⟨fun _ => rfl, fun h1 h2 => absurd h1 (by rw [h2]; exact h0), fun h1 _ => h1⟩
/-- the states that are entered from one, by the sight of q -/
def edq (v : vw) (p u : Nat) (b : Bool) (m q j : Nat) : Prop := okq v p q = true ∧ ((v 3 q ≠ u ∧ ovr v u (v 6 p) b (ch v 1 (v 3 q)) = true ∧ j = 16 * v 3 q + 8 + m) ∨ (b = true ∧ v 4 q ≠ m ∧ ovr v u (v 6 p) b (ch v 1 (v 42 (v 4 q))) = true ∧ j = 16 * u + 8 + v 4 q))
theorem r_state (u b m : Nat) (h : jh) : f_X13_state (nI u) (nI b) (nI m) h = some (nI (8 * (2 * u + b) + m), h) := by
  unfold f_X13_state
  simp only [al_lit, al_add, al_mul]
theorem t_go114 {h : jh} {m0 : Nat} {s : ms} {v : vw} (R : RowV (s 2) v) (W : WFv v) (p u m q n : Nat) (b a : Bool) (hp : p < 16) (hu : u < v 11 0) (hm : m < 8) (hq : q < 16) (hn : n < 400) {r : Nat → Int32} {t : Nat → Nat} (hT : TK r t) (hB : Bt t) (R6 : Nat → Int32 → Int32 → Int32 → Int32 → Int32 → Int32 → Int32 → jh → Option (Int32 × jh)) (K6 : Int32 → jh → Option (Int32 × jh)) : ∃ r' t' c, f_X13_goesOn_b114 R6 K6 m0 (nI p) (nI u) (bn b) (nI m) (nI n) (bn a) (nI q) (nI (v 4 q)) (pm h m0 (sw s 21 r)) = R6 m0 (nI p) (nI u) (bn b) (nI m) (nI n) (bn (a || c)) (nI (q + 1)) (pm h m0 (sw s 21 r')) ∧ TK r' t' ∧ ADD t (n + 2) (fun j => b = true ∧ v 4 q ≠ m ∧ ovr v u (v 6 p) b (ch v 1 (v 42 (v 4 q))) = true ∧ j = 16 * u + 8 + v 4 q) t' ∧ FL t t' c := by
  have hc1 := W.c1
  have hc2 := W.c2
  have h1 := W.pr p hp
  have h2 := W.pr q hq
  have h3 := W.mk (v 4 q) (by omega)
  have R1 : RowV ((sw s 21 r) 2) v := by rw [sw_ne _ _ _ _ (by decide)]; exact R
  have o6 := v_of (h := h) (m := m0) R1 p 6 hp (by decide)
  have o42 := v_kp2 (h := h) (m := m0) R1 W (v 4 q) (by omega)
  unfold f_X13_goesOn_b114
  have no : (¬ (b = true ∧ v 4 q ≠ m ∧ ovr v u (v 6 p) b (ch v 1 (v 42 (v 4 q))) = true)) → ∃ r' t' c, R6 m0 (nI p) (nI u) (bn b) (nI m) (nI n) (bn a) (nI q + 1) (pm h m0 (sw s 21 r)) = R6 m0 (nI p) (nI u) (bn b) (nI m) (nI n) (bn (a || c)) (nI (q + 1)) (pm h m0 (sw s 21 r')) ∧ TK r' t' ∧ ADD t (n + 2) (fun j => b = true ∧ v 4 q ≠ m ∧ ovr v u (v 6 p) b (ch v 1 (v 42 (v 4 q))) = true ∧ j = 16 * u + 8 + v 4 q) t' ∧ FL t t' c := by
    intro hno
    refine ⟨r, t, false, ?_, hT, ADD_id t _ _ (fun j hj => hno ⟨hj.1, hj.2.1, hj.2.2.1⟩), FL_id t⟩
    rw [Bool.or_false, show nI q + 1 = nI (q + 1) from al_add q 1]
  by_cases hb1 : b = true
  · subst hb1
    rw [if_neg (show ¬ ¬ bn true = 1 by decide)]
    by_cases hm1 : v 4 q = m
    · rw [if_pos (by rw [hm1])]
      exact no (fun e => e.2.1 hm1)
    · rw [if_neg (by rw [al_eq (by omega) (by omega)]; exact hm1), pm_cV, show f_X13_of m0 (nI p) 6 (pm h m0 (sw s 21 r)) = _ from o6, bd_some, pm_cV, show f_X13_spaceOf m0 2 (nI (v 4 q)) 2 (pm h m0 (sw s 21 r)) = _ from o42, bd_some, pm_cV, show f_X13_hasOver m0 (nI u) (nI (v 6 p)) (bn true) (nI (v 42 (v 4 q))) (pm h m0 (sw s 21 r)) = some (bn (ovr v u (v 6 p) true (ch v 1 (v 42 (v 4 q)))), pm h m0 (sw s 21 r)) from t_hasOver R1 W u (v 6 p) 1 (v 42 (v 4 q)) (by omega) (by omega) (by omega) (by omega), bd_some]
      by_cases ho : ovr v u (v 6 p) true (ch v 1 (v 42 (v 4 q))) = true
      rotate_left
      · rw [if_pos (show bn (ovr v u (v 6 p) true (ch v 1 (v 42 (v 4 q)))) = 0 by rw [show ovr v u (v 6 p) true (ch v 1 (v 42 (v 4 q))) = false by simpa using ho]; decide)]
        exact no (fun e => ho e.2.2)
      · rw [if_neg (show ¬ bn (ovr v u (v 6 p) true (ch v 1 (v 42 (v 4 q)))) = 0 by rw [ho]; decide), show f_X13_state (nI u) (bn true) (nI (v 4 q)) (pm h m0 (sw s 21 r)) = _ from r_state u 1 (v 4 q) _, bd_some, pm_cV, show nI n + 1 = nI (n + 1) from al_add n 1]
        obtain ⟨r', t', c, e1, e2, e3, e4⟩ := t_comes (h := h) (m := m0) (s := s) hT hB (8 * (2 * u + 1) + v 4 q) (n + 1) (by omega) (by omega)
        rw [e1, bd_some]
        refine ⟨r', t', c, ?_, e2, ?_, e4⟩
        · rw [show nI q + 1 = nI (q + 1) from al_add q 1]
          cases c
          · rw [if_neg (show ¬ ¬ bn false = 0 by decide)]
            cases a
            · rw [if_pos (show bn false = 0 by decide)]; rfl
            · rw [if_neg (show ¬ bn true = 0 by decide)]; rfl
          · rw [if_pos (show ¬ bn true = 0 by decide), Bool.or_true]; rfl
        · intro j
          obtain ⟨a1, a2, a3⟩ := e3 j
          refine ⟨a1, fun h5 h6 => a2 h5 (by have := h6.2.2.2; omega), fun h5 h6 => a3 h5 (fun e => h6 ⟨rfl, hm1, ho, by omega⟩)⟩
  · have hb0 : b = false := by simpa using hb1
    subst hb0
    rw [if_pos (show ¬ bn false = 1 by decide)]
    exact no (fun e => hb1 e.1)
