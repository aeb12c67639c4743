/-! roads: the reference's loops -/
theorem t_go_l {h : jh} {m0 : Nat} {s : ms} {v : vw} (R : RowV (s 2) v) (W : WFv v) (p u m n : Nat) (b : Bool) (hp : p < 16) (hu : u < v 11 0) (hm : m < 8) (hn : n < 400) (L : Nat → Nat → Int32 → Int32 → Int32 → Int32 → Int32 → Int32 → Int32 → jh → Option (Int32 × jh)) (hL : ∀ f, L (f + 1) = f_X13_goesOn_h6 (fun y41 h40 => jz y41 h40) (L f)) : ∀ k i a f (r : Nat → Int32) (t : Nat → Nat), i + k = 16 → k + 1 ≤ f → TK r t → Bt t → ∃ r' t' c, L f m0 (nI p) (nI u) (bn b) (nI m) (nI n) (bn a) (nI i) (pm h m0 (sw s 21 r)) = some (bn (a || c), pm h m0 (sw s 21 r')) ∧ TK r' t' ∧ ADD t (n + 2) (fun j => ∃ q, i ≤ q ∧ q < 16 ∧ edq v p u b m q j) t' ∧ FL t t' c := by
  have hc1 := W.c1
  have hc2 := W.c2
  have h1 := W.pr p hp
  intro k
  induction k with
  | zero =>
    intro i a f r t hi hf hT hB
    obtain ⟨f, rfl⟩ : ∃ g, f = g + 1 := ⟨f - 1, by omega⟩
    refine ⟨r, t, false, ?_, hT, ADD_id t _ _ (fun j ⟨q, h2, h3, _⟩ => by omega), FL_id t⟩
    rw [hL]
    unfold f_X13_goesOn_h6
    rw [if_pos (show (16 : Int32) ≤ nI i by rw [show (16 : Int32) = nI 16 from rfl, al_le (by omega) (by omega)]; omega)]
    show jz (bn a) _ = _
    rw [bn_jz, Bool.or_false]
  | succ k ih =>
    intro i a f r t hi hf hT hB
    obtain ⟨f, rfl⟩ : ∃ g, f = g + 1 := ⟨f - 1, by omega⟩
    have hq : i < 16 := by omega
    have h2 := W.pr i hq
    have R1 : RowV ((sw s 21 r) 2) v := by rw [sw_ne _ _ _ _ (by decide)]; exact R
    have skip : (¬ okq v p i = true) → ∃ r' t' c, L f m0 (nI p) (nI u) (bn b) (nI m) (nI n) (bn a) (nI i + 1) (pm h m0 (sw s 21 r)) = some (bn (a || c), pm h m0 (sw s 21 r')) ∧ TK r' t' ∧ ADD t (n + 2) (fun j => ∃ q, i ≤ q ∧ q < 16 ∧ edq v p u b m q j) t' ∧ FL t t' c := by
      intro hno
      rw [show nI i + 1 = nI (i + 1) from al_add i 1]
      obtain ⟨r', t', c, e1, e2, e3, e4⟩ := ih (i + 1) a f r t (by omega) (by omega) hT hB
      refine ⟨r', t', c, e1, e2, ?_, e4⟩
      intro j
      obtain ⟨a1, a2, a3⟩ := e3 j
      refine ⟨a1, fun h5 ⟨q, g1, g2, g3⟩ => a2 h5 ⟨q, ?_, g2, g3⟩, fun h5 h6 => a3 h5 (fun ⟨q, g1, g2, g3⟩ => h6 ⟨q, by omega, g2, g3⟩)⟩
      by_cases e : q = i
      · rw [e] at g3; exact absurd g3.1 hno
      · omega
    rw [hL]
    unfold f_X13_goesOn_h6
    rw [if_neg (show ¬ (16 : Int32) ≤ nI i by rw [show (16 : Int32) = nI 16 from rfl, al_le (by omega) (by omega)]; omega), pm_cV, t_there R1 W i hq, bd_some]
    by_cases h0 : v 0 i = 1
    · rw [decide_eq_true h0, if_neg (show ¬ bn true = 0 by decide)]
      by_cases hip : i = p
      · rw [if_pos (by rw [hip])]
        exact skip (by unfold okq; simp [hip])
      · rw [if_neg (by rw [al_eq (by omega) (by omega)]; exact hip), pm_cV, t_sees R1 W p i hp hq, bd_some]
        cases hs : sesV v p i
        · rw [if_neg (show ¬ ¬ bn false = 0 by decide)]
          exact skip (by unfold okq; simp [hs])
        · have hok : okq v p i = true := by unfold okq; simp [h0, hip, hs]
          rw [if_pos (show ¬ bn true = 0 by decide), pm_cV, show f_X13_of m0 (nI i) 3 (pm h m0 (sw s 21 r)) = _ from v_of R1 i 3 hq (by decide), bd_some, pm_cV, show f_X13_of m0 (nI i) 4 (pm h m0 (sw s 21 r)) = _ from v_of R1 i 4 hq (by decide), bd_some]
          -- from the second entering on
          have rest : ∀ (a1 : Bool) (r1 : Nat → Int32) (t1 : Nat → Nat) (c1 : Bool) (X : Nat → Prop), TK r1 t1 → Bt t1 → ADD t (n + 2) X t1 → FL t t1 c1 → (∀ j, X j ↔ (v 3 i ≠ u ∧ ovr v u (v 6 p) b (ch v 1 (v 3 i)) = true ∧ j = 16 * v 3 i + 8 + m)) → a1 = (a || c1) → ∃ r' t' c, f_X13_goesOn_b114 (L f) (fun y41 h40 => jz y41 h40) m0 (nI p) (nI u) (bn b) (nI m) (nI n) (bn a1) (nI i) (nI (v 4 i)) (pm h m0 (sw s 21 r1)) = some (bn (a || c), pm h m0 (sw s 21 r')) ∧ TK r' t' ∧ ADD t (n + 2) (fun j => ∃ q, i ≤ q ∧ q < 16 ∧ edq v p u b m q j) t' ∧ FL t t' c := by
            intro a1 r1 t1 c1 X g1 g2 g3 g4 g5 ga
            obtain ⟨r2, t2, c2, e1, e2, e3, e4⟩ := t_go114 (h := h) (m0 := m0) R W p u m i n b a1 hp hu hm hq hn g1 g2 (L f) (fun y41 h40 => jz y41 h40)
            have hB2 : Bt t2 := Bt_add g2 (by omega) e3 (fun j => Classical.em _)
            obtain ⟨r3, t3, c3, f1, f2, f3, f4⟩ := ih (i + 1) (a1 || c2) f r2 t2 (by omega) (by omega) e2 hB2
            refine ⟨r3, t3, (c1 || c2) || c3, ?_, f2, ?_, FL_tr (by omega) (ADD_tr (Z := fun j => X j ∨ _) (by omega) g3 e3 (fun j => Iff.rfl)) f3 (FL_tr (by omega) g3 e3 g4 e4) f4⟩
            · rw [e1, f1, ga]
              cases a <;> cases c1 <;> cases c2 <;> rfl
            · refine ADD_tr (by omega) (ADD_tr (Z := fun j => X j ∨ (b = true ∧ v 4 i ≠ m ∧ ovr v u (v 6 p) b (ch v 1 (v 42 (v 4 i))) = true ∧ j = 16 * u + 8 + v 4 i)) (by omega) g3 e3 (fun j => Iff.rfl)) f3 (fun j => ?_)
              constructor
              · rintro ⟨q, k1, k2, k3⟩
                by_cases e : q = i
                · subst e
                  left
                  rcases k3.2 with k4 | k4
                  · exact Or.inl ((g5 j).mpr k4)
                  · exact Or.inr k4
                · exact Or.inr ⟨q, by omega, k2, k3⟩
              · rintro ((k4 | k4) | ⟨q, k1, k2, k3⟩)
                · exact ⟨i, Nat.le_refl _, hq, hok, Or.inl ((g5 j).mp k4)⟩
                · exact ⟨i, Nat.le_refl _, hq, hok, Or.inr k4⟩
                · exact ⟨q, by omega, k2, k3⟩
          have stay : (¬ (v 3 i ≠ u ∧ ovr v u (v 6 p) b (ch v 1 (v 3 i)) = true)) → ∃ r' t' c, f_X13_goesOn_b114 (L f) (fun y41 h40 => jz y41 h40) m0 (nI p) (nI u) (bn b) (nI m) (nI n) (bn a) (nI i) (nI (v 4 i)) (pm h m0 (sw s 21 r)) = some (bn (a || c), pm h m0 (sw s 21 r')) ∧ TK r' t' ∧ ADD t (n + 2) (fun j => ∃ q, i ≤ q ∧ q < 16 ∧ edq v p u b m q j) t' ∧ FL t t' c := by
            intro hno
            exact rest a r t false (fun _ => False) hT hB (ADD_id t _ _ (fun _ e => e)) (FL_id t) (fun j => ⟨fun e => e.elim, fun e => hno ⟨e.1, e.2.1⟩⟩) (by rw [Bool.or_false])
          by_cases hu1 : v 3 i = u
          · rw [if_pos (by rw [hu1])]
            exact stay (fun e => e.1 hu1)
          · have e8 : f_X13_hasOver m0 (nI u) (nI (v 6 p)) (bn b) (nI (v 3 i)) (pm h m0 (sw s 21 r)) = some (bn (ovr v u (v 6 p) b (ch v 1 (v 3 i))), pm h m0 (sw s 21 r)) := by
              cases b
              · exact t_hasOver R1 W u (v 6 p) 0 (v 3 i) (by omega) (by omega) (by omega) (by omega)
              · exact t_hasOver R1 W u (v 6 p) 1 (v 3 i) (by omega) (by omega) (by omega) (by omega)
            rw [if_neg (by rw [al_eq (by omega) (by omega)]; exact hu1), pm_cV, show f_X13_of m0 (nI p) 6 (pm h m0 (sw s 21 r)) = _ from v_of R1 p 6 hp (by decide), bd_some, pm_cV, e8, bd_some]
            cases ho : ovr v u (v 6 p) b (ch v 1 (v 3 i))
            · rw [if_pos (show bn false = 0 by decide)]
              rw [ho] at stay
              exact stay (fun e => by cases e.2)
            · rw [if_neg (show ¬ bn true = 0 by decide), show f_X13_state (nI (v 3 i)) 1 (nI m) (pm h m0 (sw s 21 r)) = _ from r_state (v 3 i) 1 m _, bd_some, pm_cV, show nI n + 1 = nI (n + 1) from al_add n 1]
              obtain ⟨r1, t1, c1, e1, e2, e3, e4⟩ := t_comes (h := h) (m := m0) (s := s) hT hB (8 * (2 * v 3 i + 1) + m) (n + 1) (by omega) (by omega)
              rw [e1, bd_some]
              have hB1 : Bt t1 := Bt_add hB (by omega) e3 (fun j => Classical.em _)
              have go : ∀ a1 : Bool, a1 = (a || c1) → _ := fun a1 ga => rest a1 r1 t1 c1 _ e2 hB1 e3 e4 (fun j => by
                rw [ho]
                exact ⟨fun e => ⟨hu1, rfl, by omega⟩, fun e => by have := e.2.2; omega⟩) ga
              cases c1
              · rw [if_neg (show ¬ ¬ bn false = 0 by decide)]
                cases a
                · rw [if_pos (show bn false = 0 by decide)]; exact go false rfl
                · rw [if_neg (show ¬ bn true = 0 by decide)]; exact go true rfl
              · rw [if_pos (show ¬ bn true = 0 by decide)]; exact go true (by rw [Bool.or_true])
    · rw [decide_eq_false h0, if_pos (show bn false = 0 by decide)]
      exact skip (by unfold okq; simp [h0])
/-- all that is entered from a state -/
def edk (v : vw) (p k j : Nat) : Prop := ∃ q, q < 16 ∧ edq v p (k / 16) (decide (k / 8 % 2 = 1)) (k % 8) q j
theorem t_go {h : jh} {m0 : Nat} {s : ms} {v : vw} (R : RowV (s 2) v) (W : WFv v) (p k n : Nat) (hp : p < 16) (hk : k / 16 < v 11 0) (hn : n < 400) {r : Nat → Int32} {t : Nat → Nat} (hT : TK r t) (hB : Bt t) : ∃ r' t' c, f_X13_goesOn m0 (nI p) (nI (k / 16)) (nI (k / 8 % 2)) (nI (k % 8)) (nI n) (pm h m0 (sw s 21 r)) = some (bn c, pm h m0 (sw s 21 r')) ∧ TK r' t' ∧ ADD t (n + 2) (edk v p k) t' ∧ FL t t' c := by
  obtain ⟨f, hf⟩ := jfu_s
  obtain ⟨r', t', c, e1, e2, e3, e4⟩ := t_go_l (h := h) (m0 := m0) R W p (k / 16) (k % 8) n (decide (k / 8 % 2 = 1)) hp hk (by omega) hn (jlp8 (f_X13_goesOn_h6 (fun y41 h40 => jz y41 h40))) (fun _ => rfl) 16 0 false jfu r t (by omega) (by omega) hT hB
  refine ⟨r', t', c, ?_, e2, ?_, e4⟩
  · have eb : bn (decide (k / 8 % 2 = 1)) = nI (k / 8 % 2) := by
      have h1 : k / 8 % 2 = 0 ∨ k / 8 % 2 = 1 := by omega
      rcases h1 with h1 | h1 <;> simp [h1, bn]
    rw [eb, Bool.false_or] at e1
    exact e1
  · intro j
    obtain ⟨a1, a2, a3⟩ := e3 j
    exact ⟨a1, fun h5 ⟨q, g1, g2⟩ => a2 h5 ⟨q, Nat.zero_le _, g1, g2⟩, fun h5 h6 => a3 h5 (fun ⟨q, _, g1, g2⟩ => h6 ⟨q, g1, g2⟩)⟩
/-- one pass at a level: all states that took n -/
theorem t_pass_l {h : jh} {m0 : Nat} {s : ms} {v : vw} (R : RowV (s 2) v) (W : WFv v) (p n : Nat) (hp : p < 16) (hn : n < 400) (R54 : Nat → Int32 → Int32 → Int32 → jh → Option (Unit × jh)) (K54 : jh → Option (Unit × jh)) (K : Nat → Int32 → Int32 → Int32 → jh → Option (Unit × jh)) (L : Nat → Nat → Int32 → Int32 → Int32 → Int32 → jh → Option (Unit × jh)) (hL : ∀ f, L (f + 1) = f_X13_tellSteps_h63 R54 K54 K (L f)) : ∀ k i a f (r : Nat → Int32) (t : Nat → Nat), i + k = 128 → k + 1 ≤ f → TK r t → Bt t → (∀ j, j < 128 → t j ≠ 0 → j / 16 < v 11 0) → ∃ r' t' c, L f m0 (nI p) (bn a) (nI n) (nI i) (pm h m0 (sw s 21 r)) = K m0 (nI p) (bn (a || c)) (nI n) (pm h m0 (sw s 21 r')) ∧ TK r' t' ∧ ADD t (n + 2) (fun j => ∃ k, i ≤ k ∧ k < 128 ∧ t k = n + 1 ∧ edk v p k j) t' ∧ FL t t' c := by
  have hc1 := W.c1
  have hc2 := W.c2
  intro k
  induction k with
  | zero =>
    intro i a f r t hi hf hT hB hu
    obtain ⟨f, rfl⟩ : ∃ g, f = g + 1 := ⟨f - 1, by omega⟩
    refine ⟨r, t, false, ?_, hT, ADD_id t _ _ (fun j ⟨q, h2, h3, _⟩ => by omega), FL_id t⟩
    rw [hL]
    unfold f_X13_tellSteps_h63
    rw [if_pos (show (128 : Int32) ≤ nI i by rw [show (128 : Int32) = nI 128 from rfl, al_le (by omega) (by omega)]; omega), Bool.or_false]
  | succ k ih =>
    intro i a f r t hi hf hT hB hu
    obtain ⟨f, rfl⟩ : ∃ g, f = g + 1 := ⟨f - 1, by omega⟩
    have hi1 : i < 128 := by omega
    have hbi := hB i
    have er : sw s 21 r 21 i = stv (t i) := by rw [sw_eq]; exact hT i hi1
    rw [hL]
    unfold f_X13_tellSteps_h63
    rw [if_neg (show ¬ (128 : Int32) ≤ nI i by rw [show (128 : Int32) = nI 128 from rfl, al_le (by omega) (by omega)]; omega), pm_gR21, rd21 _ _ _ _ _ hi1, er]
    by_cases h0 : t i = n + 1
    · rw [if_neg (not_not_intro (by rw [stv_nI (by omega) (by omega)]; exact h0)), pm_cV]
      have d1 : nI i / 8 = nI (i / 8) := pk_div (a := i) (d := 8) (by omega) (by omega) (by omega)
      have d2 : nI (i / 8) / 2 = nI (i / 16) := by
        have := pk_div (a := i / 8) (d := 2) (by omega) (by omega) (by omega)
        rw [show i / 8 / 2 = i / 16 by omega] at this
        exact this
      have d3 : nI (i / 8) - nI (i / 16) * 2 = nI (i / 8 % 2) := by
        rw [show nI (i / 16) * 2 = nI (i / 16 * 2) from al_mul _ 2, al_sub (by omega), show i / 8 - i / 16 * 2 = i / 8 % 2 by omega]
      have d4 : nI i - nI (i / 8) * 8 = nI (i % 8) := by
        rw [show nI (i / 8) * 8 = nI (i / 8 * 8) from al_mul _ 8, al_sub (by omega), show i - i / 8 * 8 = i % 8 by omega]
      rw [d1, d2, d3, d4]
      obtain ⟨r1, t1, c1, e1, e2, e3, e4⟩ := t_go (h := h) (m0 := m0) R W p i n hp (hu i hi1 (by omega)) hn hT hB
      rw [e1, bd_some]
      have hB1 : Bt t1 := Bt_add hB (by omega) e3 (fun j => Classical.em _)
      have hu1 : ∀ j, j < 128 → t1 j ≠ 0 → j / 16 < v 11 0 := by
        intro j hj hne
        by_cases hz : t j = 0
        · by_cases hx : edk v p i j
          · obtain ⟨q, hq, -, g⟩ := hx
            have := W.pr q hq
            have := hu i hi1 (by omega)
            rcases g with ⟨-, -, e⟩ | ⟨-, -, -, e⟩ <;> omega
          · exact absurd ((e3 j).2.2 hz hx) hne
        · exact hu j hj hz
      have go : ∀ a1 : Bool, a1 = (a || c1) → ∃ r' t' c, L f m0 (nI p) (bn a1) (nI n) (nI i + 1) (pm h m0 (sw s 21 r1)) = K m0 (nI p) (bn (a || c)) (nI n) (pm h m0 (sw s 21 r')) ∧ TK r' t' ∧ ADD t (n + 2) (fun j => ∃ k, i ≤ k ∧ k < 128 ∧ t k = n + 1 ∧ edk v p k j) t' ∧ FL t t' c := by
        intro a1 ga
        rw [show nI i + 1 = nI (i + 1) from al_add i 1]
        obtain ⟨r2, t2, c2, f1, f2, f3, f4⟩ := ih (i + 1) a1 f r1 t1 (by omega) (by omega) e2 hB1 hu1
        refine ⟨r2, t2, c1 || c2, ?_, f2, ?_, FL_tr (by omega) e3 f3 e4 f4⟩
        · rw [f1, ga]
          cases a <;> cases c1 <;> cases c2 <;> rfl
        · refine ADD_tr (by omega) e3 f3 (fun j => ?_)
          constructor
          · rintro ⟨x, k1, k2, k3, k4⟩
            by_cases e : x = i
            · rw [e] at k4; exact Or.inl k4
            · exact Or.inr ⟨x, by omega, k2, by rw [(e3 x).1 (by omega)]; exact k3, k4⟩
          · rintro (k4 | ⟨x, k1, k2, k3, k4⟩)
            · exact ⟨i, Nat.le_refl _, hi1, h0, k4⟩
            · refine ⟨x, by omega, k2, ?_, k4⟩
              by_cases hz : t x = 0
              · by_cases hx : edk v p i x
                · have := (e3 x).2.1 hz hx; omega
                · have := (e3 x).2.2 hz hx; omega
              · rw [(e3 x).1 hz] at k3; exact k3
      cases c1
      · rw [if_neg (show ¬ ¬ bn false = 0 by decide)]
        cases a
        · rw [if_pos (show bn false = 0 by decide)]; exact go false rfl
        · rw [if_neg (show ¬ bn true = 0 by decide)]; exact go true rfl
      · rw [if_pos (show ¬ bn true = 0 by decide)]; exact go true (by rw [Bool.or_true])
    · rw [if_pos (by rw [stv_nI (by omega) (by omega)]; exact h0), show nI i + 1 = nI (i + 1) from al_add i 1]
      obtain ⟨r', t', c, e1, e2, e3, e4⟩ := ih (i + 1) a f r t (by omega) (by omega) hT hB hu
      refine ⟨r', t', c, e1, e2, ?_, e4⟩
      intro j
      obtain ⟨a1, a2, a3⟩ := e3 j
      refine ⟨a1, fun h5 ⟨x, g1, g2, g3, g4⟩ => a2 h5 ⟨x, ?_, g2, g3, g4⟩, fun h5 h6 => a3 h5 (fun ⟨x, g1, g2, g3⟩ => h6 ⟨x, by omega, g2, g3⟩)⟩
      by_cases e : x = i
      · rw [e] at g3; exact absurd g3 h0
      · omega
