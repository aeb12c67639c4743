/-! roads: the class's loops -/
def prr (H : jh) (z : Nat) (D G S : Nat → Int32) (n : Int32) : jh := (H.1, H.2.1, fun q => if q = z + 92 then jO 5 [.ref (z + 93), .ref (z + 94), .ref (z + 95), .int n] else if q = z + 93 then jI 9 D else if q = z + 94 then jI 9 G else if q = z + 95 then jI 8 S else H.2.2 q)
theorem prr_92 (H : jh) (z : Nat) (D G S : Nat → Int32) (n : Int32) : (prr H z D G S n).2.2 (z + 92) = jO 5 [.ref (z + 93), .ref (z + 94), .ref (z + 95), .int n] := if_pos rfl
theorem prr_93 (H : jh) (z : Nat) (D G S : Nat → Int32) (n : Int32) : (prr H z D G S n).2.2 (z + 93) = jI 9 D := by show (if z + 93 = z + 92 then _ else if z + 93 = z + 93 then _ else _) = _; rw [if_neg (by omega), if_pos rfl]
theorem prr_94 (H : jh) (z : Nat) (D G S : Nat → Int32) (n : Int32) : (prr H z D G S n).2.2 (z + 94) = jI 9 G := by show (if z + 94 = z + 92 then _ else if z + 94 = z + 93 then _ else if z + 94 = z + 94 then _ else _) = _; rw [if_neg (by omega), if_neg (by omega), if_pos rfl]
theorem prr_95 (H : jh) (z : Nat) (D G S : Nat → Int32) (n : Int32) : (prr H z D G S n).2.2 (z + 95) = jI 8 S := by show (if z + 95 = z + 92 then _ else if z + 95 = z + 93 then _ else if z + 95 = z + 94 then _ else if z + 95 = z + 95 then _ else _) = _; rw [if_neg (by omega), if_neg (by omega), if_neg (by omega), if_pos rfl]
theorem prr_o (H : jh) (z : Nat) (D G S : Nat → Int32) (n : Int32) (q : Nat) (h : ¬ (z + 92 ≤ q ∧ q < z + 96)) : (prr H z D G S n).2.2 q = H.2.2 q := by show (if q = z + 92 then _ else if q = z + 93 then _ else if q = z + 94 then _ else if q = z + 95 then _ else _) = _; rw [if_neg (by omega), if_neg (by omega), if_neg (by omega), if_neg (by omega)]
theorem prr_id {H : jh} {z : Nat} {D G S : Nat → Int32} {n : Int32} (h1 : H.2.2 (z + 92) = jO 5 [.ref (z + 93), .ref (z + 94), .ref (z + 95), .int n]) (h2 : H.2.2 (z + 93) = jI 9 D) (h3 : H.2.2 (z + 94) = jI 9 G) (h4 : H.2.2 (z + 95) = jI 8 S) : prr H z D G S n = H := by
  refine Prod.ext rfl (Prod.ext rfl (funext fun q => ?_))
  show (if q = z + 92 then _ else if q = z + 93 then _ else if q = z + 94 then _ else if q = z + 95 then _ else _) = _
  by_cases e1 : q = z + 92
  · rw [if_pos e1, e1, h1]
  · rw [if_neg e1]
    by_cases e2 : q = z + 93
    · rw [if_pos e2, e2, h2]
    · rw [if_neg e2]
      by_cases e3 : q = z + 94
      · rw [if_pos e3, e3, h3]
      · rw [if_neg e3]
        by_cases e4 : q = z + 95
        · rw [if_pos e4, e4, h4]
        · rw [if_neg e4]
theorem prr_prr (H : jh) (z : Nat) (D G S D' G' S' : Nat → Int32) (n n' : Int32) : prr (prr H z D G S n) z D' G' S' n' = prr H z D' G' S' n' := by
  refine Prod.ext rfl (Prod.ext rfl (funext fun q => ?_))
  show (if q = z + 92 then _ else if q = z + 93 then _ else if q = z + 94 then _ else if q = z + 95 then _ else (prr H z D G S n).2.2 q) = (if q = z + 92 then _ else if q = z + 93 then _ else if q = z + 94 then _ else if q = z + 95 then _ else H.2.2 q)
  by_cases e : z + 92 ≤ q ∧ q < z + 96
  · by_cases e1 : q = z + 92
    · rw [if_pos e1, if_pos e1]
    · rw [if_neg e1, if_neg e1]
      by_cases e2 : q = z + 93
      · rw [if_pos e2, if_pos e2]
      · rw [if_neg e2, if_neg e2]
        by_cases e3 : q = z + 94
        · rw [if_pos e3, if_pos e3]
        · rw [if_neg e3, if_neg e3, if_pos (show q = z + 95 by omega), if_pos (show q = z + 95 by omega)]
  · rw [prr_o _ _ _ _ _ _ _ e]
theorem prr_w (H : jh) (z : Nat) (D G S D' G' S' : Nat → Int32) (n n' : Int32) (a : Nat) (c : jc) (ha : (prr H z D' G' S' n').2.2 a = c) (ho : ∀ q, q ≠ a → (prr H z D' G' S' n').2.2 q = (prr H z D G S n).2.2 q) : jv_wr (prr H z D G S n) a c = prr H z D' G' S' n' := by
  refine Prod.ext rfl (Prod.ext rfl (funext fun q => ?_))
  show (if q = a then c else _) = _
  by_cases e : q = a
  · rw [if_pos e, e, ha]
  · rw [if_neg e, ho q e]
theorem prr_w93 (H : jh) (z : Nat) (D G S D' : Nat → Int32) (n : Int32) : jv_wr (prr H z D G S n) (z + 93) (jI 9 D') = prr H z D' G S n := by
  refine prr_w _ _ _ _ _ _ _ _ _ _ _ _ (prr_93 _ _ _ _ _ _) (fun q hq => ?_)
  show (if q = z + 92 then _ else if q = z + 93 then _ else _) = (if q = z + 92 then _ else if q = z + 93 then _ else _)
  rw [if_neg hq, if_neg hq]
theorem prr_w94 (H : jh) (z : Nat) (D G S G' : Nat → Int32) (n : Int32) : jv_wr (prr H z D G S n) (z + 94) (jI 9 G') = prr H z D G' S n := by
  refine prr_w _ _ _ _ _ _ _ _ _ _ _ _ (prr_94 _ _ _ _ _ _) (fun q hq => ?_)
  show (if q = z + 92 then _ else if q = z + 93 then _ else if q = z + 94 then _ else _) = (if q = z + 92 then _ else if q = z + 93 then _ else if q = z + 94 then _ else _)
  rw [if_neg hq, if_neg hq]
theorem prr_w95 (H : jh) (z : Nat) (D G S S' : Nat → Int32) (n : Int32) : jv_wr (prr H z D G S n) (z + 95) (jI 8 S') = prr H z D G S' n := by
  refine prr_w _ _ _ _ _ _ _ _ _ _ _ _ (prr_95 _ _ _ _ _ _) (fun q hq => ?_)
  show (if q = z + 92 then _ else if q = z + 93 then _ else if q = z + 94 then _ else if q = z + 95 then _ else _) = (if q = z + 92 then _ else if q = z + 93 then _ else if q = z + 94 then _ else if q = z + 95 then _ else _)
  rw [if_neg hq, if_neg hq]
theorem prr_w92 (H : jh) (z : Nat) (D G S : Nat → Int32) (n n' : Int32) : jv_wr (prr H z D G S n) (z + 92) (jO 5 [.ref (z + 93), .ref (z + 94), .ref (z + 95), .int n']) = prr H z D G S n' := by
  refine prr_w _ _ _ _ _ _ _ _ _ _ _ _ (prr_92 _ _ _ _ _ _) (fun q hq => ?_)
  show (if q = z + 92 then _ else _) = (if q = z + 92 then _ else _)
  rw [if_neg hq, if_neg hq]
section PRR
variable {β γ : Type} {H : jh} {z : Nat} {D G S : Nat → Int32} {n : Int32}
theorem rr_0 (K : Nat → Option β) : gR (prr H z D G S n) (z + 92) 5 0 K = K (z + 93) := gR_of (prr_92 _ _ _ _ _ _) rfl K
theorem rr_1 (K : Nat → Option β) : gR (prr H z D G S n) (z + 92) 5 1 K = K (z + 94) := gR_of (prr_92 _ _ _ _ _ _) rfl K
theorem rr_2 (K : Nat → Option β) : gR (prr H z D G S n) (z + 92) 5 2 K = K (z + 95) := gR_of (prr_92 _ _ _ _ _ _) rfl K
theorem rr_3 (K : Int32 → Option β) : gI (prr H z D G S n) (z + 92) 5 3 K = K n := gI_of (prr_92 _ _ _ _ _ _) rfl K
theorem rr_c (o : Option (γ × jh)) (K : γ → jh → Option β) : cV (prr H z D G S n) (z + 92) 5 o K = bd o K := cV_of (prr_92 _ _ _ _ _ _) o K
theorem rr_p (x : Int32) (K : jh → Option β) : pV (prr H z D G S n) (z + 92) 5 3 (.int x) K = K (prr H z D G S x) := by
  rw [pV_of (prr_92 _ _ _ _ _ _) (Nat.le_of_ble_eq_true rfl)]
  exact congrArg K (prr_w92 _ _ _ _ _ _ _)
theorem rr_d (j : Nat) (hj : j < 9) (K : Int32 → Option β) : aI (prr H z D G S n) (z + 93) (nI j) K = K (D j) := aI_of (prr_93 _ _ _ _ _ _) hj (by decide) K
theorem rr_g (j : Nat) (hj : j < 9) (K : Int32 → Option β) : aI (prr H z D G S n) (z + 94) (nI j) K = K (G j) := aI_of (prr_94 _ _ _ _ _ _) hj (by decide) K
theorem rr_s (j : Nat) (hj : j < 8) (K : Int32 → Option β) : aI (prr H z D G S n) (z + 95) (nI j) K = K (S j) := aI_of (prr_95 _ _ _ _ _ _) hj (by decide) K
theorem rw_d (j : Nat) (hj : j < 9) (x : Int32) (K : jh → Option β) : sI (prr H z D G S n) (z + 93) (nI j) x K = K (prr H z (upd D j x) G S n) := by rw [sI_of (prr_93 _ _ _ _ _ _) hj (by decide), prr_w93]
theorem rw_g (j : Nat) (hj : j < 9) (x : Int32) (K : jh → Option β) : sI (prr H z D G S n) (z + 94) (nI j) x K = K (prr H z D (upd G j x) S n) := by rw [sI_of (prr_94 _ _ _ _ _ _) hj (by decide), prr_w94]
theorem rw_s (j : Nat) (hj : j < 8) (x : Int32) (K : jh → Option β) : sI (prr H z D G S n) (z + 95) (nI j) x K = K (prr H z D G (upd S j x) n) := by rw [sI_of (prr_95 _ _ _ _ _ _) hj (by decide), prr_w95]
theorem rr_w {w : Nat} {W : ms} (h : Hw H w W) (hw : w + 28 ≤ z + 92) : Hw (prr H z D G S n) w W := fun d hd => by rw [prr_o _ _ _ _ _ _ _ (by omega)]; exact h d hd
end PRR
def RV (D G S : Nat → Int32) (c : Nat) (d Q x : Nat → Nat) : Prop := (∀ j, j < 9 → D j = stv (d j)) ∧ (∀ j, j < c → G j = nI (Q j)) ∧ (∀ j, j < 8 → S j = stv (x j)) ∧ c = cnt (fun k => decide (d k ≠ 0)) 9 0 ∧ (∀ k, d k < 1000) ∧ ∀ k, x k < 1000
theorem Bx_add {t t' : Nat → Nat} {n : Nat} {X : Nat → Prop} (h : ∀ k, t k < 1000) (hn : n < 1000) (A : ADD t n X t') : ∀ k, t' k < 1000 := Bt_add h hn A (fun _ => Classical.em _)
theorem c_reachS {H : jh} {z : Nat} {D G S : Nat → Int32} {c : Nat} {d Q x : Nat → Nat} (hV : RV D G S c d Q x) (us k : Nat) (hu : us < 9) (hk : k < 900) : ∃ D' G' c' d' Q', f_X7_reach (z + 92) (nI us) (nI k) (prr H z D G S (nI c)) = some ((), prr H z D' G' S (nI c')) ∧ RV D' G' S c' d' Q' x ∧ ADD d (k + 1) (fun j => j = us) d' ∧ QX c Q d c' Q' d' (k + 1) := by
  obtain ⟨v1, v2, v3, v4, v5, v6⟩ := hV
  have hd := v5 us
  have hc9 : c ≤ 9 := by rw [v4]; exact cnt_le _ _ _
  unfold f_X7_reach
  rw [rr_0, rr_d us hu, v1 us hu]
  by_cases h0 : d us = 0
  · rw [if_neg (show ¬ ¬ stv (d us) = -1 from not_not_intro (by rw [show (-1 : Int32) = nm1 from rfl, stv_m1 (by omega)]; exact h0)), rr_3]
    have hc8 : c < 9 := by
      have := cnt_less (P := fun _ => true) (Q := fun k => decide (d k ≠ 0)) (fun _ _ => rfl) us rfl (by simp [h0]) 9 0 (Nat.zero_le _) (by omega)
      have e : cnt (fun _ => true) 9 0 = 9 := by decide
      omega
    rw [if_neg (by rw [show (9 : Int32) = nI 9 from rfl, al_le (by omega) (by omega)]; omega), rr_0, rw_d us hu, rr_1, rr_3, rw_g c hc8, rr_3, rr_p, show nI c + 1 = nI (c + 1) from al_add c 1]
    refine ⟨_, _, c + 1, fun j => if j = us then k + 1 else d j, fun j => if j = c then us else Q j, rfl, ⟨?_, ?_, v3, ?_, ?_, v6⟩, ?_, ⟨by omega, fun j hj => if_neg (by omega), ?_, ?_⟩⟩
    · intro j hj
      unfold upd
      show _ = stv (if j = us then k + 1 else d j)
      by_cases e : j = us
      · rw [if_pos e, if_pos e]; rfl
      · rw [if_neg e, if_neg e]; exact v1 j hj
    · intro j hj
      unfold upd
      show _ = nI (if j = c then us else Q j)
      by_cases e : j = c
      · rw [if_pos e, if_pos e]
      · rw [if_neg e, if_neg e]; exact v2 j (by omega)
    · have := cnt_up (P := fun q => decide ((if q = us then k + 1 else d q) ≠ 0)) (Q := fun q => decide (d q ≠ 0)) us (by simp) (by simp [h0]) (fun q hq => by simp [hq]) 9 0
      rw [if_pos (by omega)] at this
      rw [← this, v4]
    · intro q
      show (if q = us then k + 1 else d q) < 1000
      have := v5 q
      split <;> omega
    · intro j
      exact ⟨fun h1 => if_neg (fun e => h1 (by rw [e]; exact h0)), fun _ h2 => if_pos h2, fun h1 h2 => (if_neg h2).trans h1⟩
    · intro j h1 h2
      have e : j = c := by omega
      have e1 : (if j = c then us else Q j) = us := if_pos e
      refine ⟨by show (if j = c then us else Q j) ≤ 8; omega, ?_⟩
      show (if (if j = c then us else Q j) = us then k + 1 else _) = k + 1
      exact if_pos e1
    · intro st hs h1 h2
      have h1 : (if st = us then k + 1 else d st) ≠ 0 := h1
      by_cases e : st = us
      · exact ⟨c, Nat.le_refl _, by omega, by show (if c = c then us else Q c) = st; rw [if_pos rfl, e]⟩
      · rw [if_neg e] at h1; exact absurd h2 h1
  · rw [if_pos (show ¬ stv (d us) = -1 by rw [show (-1 : Int32) = nm1 from rfl, stv_m1 (by omega)]; exact h0)]
    refine ⟨D, G, c, d, Q, rfl, ⟨v1, v2, v3, v4, v5, v6⟩, ?_, QX_id c Q d _⟩
    intro j
    exact ⟨fun _ => rfl, fun h1 h2 => absurd h1 (by rw [h2]; exact h0), fun h1 _ => h1⟩
theorem h_ruled {H : jh} {w : Nat} {W : ms} {v : vw} (h : Hw H w W) (C : ClsV W v) (Wf : WFv v) (own id x : Nat) (b : Bool) (h1 : own < 100) (h2 : id < 100) (hx : x < v 11 0) : f_X10_isRuled (w + 15) (nI x) (nI own) (bn b) (nI id) H = some (bn (ovr v own id b (ch v 1 x)), H) := by
  have e := c_ruled (h := H) (w := w) C Wf own id x b h1 h2 hx
  rwa [h.eq] at e
theorem h_has {H : jh} {w : Nat} {W : ms} {v : vw} (h : Hw H w W) (C : ClsV W v) (p : Nat) (hp : p < 16) : f_X5_has (w + 1) (nI p) H = some (bn (decide (v 0 p = 1)), H) := by
  have e := c_has (h := H) (w := w) C p hp
  rwa [h.eq] at e
theorem h_sees {H : jh} {w : Nat} {W : ms} {v : vw} (h : Hw H w W) (C : ClsV W v) (Wf : WFv v) (p q : Nat) (hp : p < 16) (hq : q < 16) : f_X11_sees w (nI p) (nI q) H = some (bn (sesV v p q), H) := by
  have e := c_sees (h := H) (w := w) C Wf p q hp hq
  rwa [h.eq] at e
theorem h_power {H : jh} {w : Nat} {W : ms} {v : vw} (h : Hw H w W) (C : ClsV W v) (p : Nat) (hp : p < 16) : f_X5_hasPower (w + 1) (nI p) H = some (bn (decide (v 0 p = 1 ∧ v 7 p = 1)), H) := by
  have e := c_hasPower (h := H) (w := w) C p hp
  rwa [h.eq] at e
section LAB
variable {H : jh} {z w : Nat} {W : ms} {v : vw} (hW : Hw H w W) (hw : w + 28 ≤ z + 92) (C : ClsV W v) (Wf : WFv v)
theorem c_la144 (hW : Hw H w W) (hw : w + 28 ≤ z + 92) (C : ClsV W v) (Wf : WFv v) (p st own q : Nat) (b : Bool) (hst : st < 9) (hown : own < 100) (hp : p < 16) (hq : q < 16) {D G S : Nat → Int32} {c : Nat} {d Q x : Nat → Nat} (hV : RV D G S c d Q x) (hd0 : d st ≠ 0) (hd9 : d st < 900) (R59 : Nat → Nat → Int32 → Int32 → Nat → Int32 → Int32 → Int32 → Int32 → jh → Option (Unit × jh)) (K59 : jh → Option (Unit × jh)) :
    ∃ S' x', f_X7_lookAround_b144 R59 K59 (z + 92) w (nI p) (nI st) (w + 1) (nI own) (bn b) (nI (v 6 p)) (nI q) (prr H z D G S (nI c)) = R59 (z + 92) w (nI p) (nI st) (w + 1) (nI own) (bn b) (nI (v 6 p)) (nI (q + 1)) (prr H z D G S' (nI c)) ∧ RV D G S' c d Q x' ∧ ADD x (d st + 1) (fun m => b = true ∧ v 4 q = m ∧ ovr v own (v 6 p) true (ch v 1 (v 42 m)) = true) x' := by
  have hc1 := Wf.c1
  have hc2 := Wf.c2
  obtain ⟨v1, v2, v3, v4, v5, v6⟩ := hV
  have h1 := Wf.pr p hp
  have h2 := Wf.pr q hq
  have h3 := Wf.mk (v 4 q) (by omega)
  have hG : Hw (prr H z D G S (nI c)) w W := rr_w hW hw
  have e3 : W 3 q = nI (v 4 q) := C.pa q 3 hq (by decide)
  have e23 : W 23 (v 4 q) = nI (v 42 (v 4 q)) := C.mk (v 4 q) (by omega)
  have no : (¬ (b = true ∧ x (v 4 q) = 0 ∧ ovr v own (v 6 p) true (ch v 1 (v 42 (v 4 q))) = true)) → ∃ S' x', R59 (z + 92) w (nI p) (nI st) (w + 1) (nI own) (bn b) (nI (v 6 p)) (nI q + 1) (prr H z D G S (nI c)) = R59 (z + 92) w (nI p) (nI st) (w + 1) (nI own) (bn b) (nI (v 6 p)) (nI (q + 1)) (prr H z D G S' (nI c)) ∧ RV D G S' c d Q x' ∧ ADD x (d st + 1) (fun m => b = true ∧ v 4 q = m ∧ ovr v own (v 6 p) true (ch v 1 (v 42 m)) = true) x' := by
    intro hno
    refine ⟨S, x, by rw [show nI q + 1 = nI (q + 1) from al_add q 1], ⟨v1, v2, v3, v4, v5, v6⟩, fun j => ⟨fun _ => rfl, fun g1 g2 => ?_, fun g1 _ => g1⟩⟩
    obtain ⟨k1, k2, k3⟩ := g2
    subst k2
    exact absurd ⟨k1, g1, k3⟩ hno
  unfold f_X7_lookAround_b144
  rw [hw_gR1_3 hG, hr3 hG q _ hq, e3]
  by_cases hb1 : b = true
  · subst hb1
    rw [if_neg (show ¬ bn true = 0 by decide), rr_2, rr_s (v 4 q) (by omega), v3 (v 4 q) (by omega)]
    have hx6 := v6 (v 4 q)
    by_cases hx0 : x (v 4 q) = 0
    · rw [if_neg (show ¬ ¬ stv (x (v 4 q)) = -1 from not_not_intro (by rw [show (-1 : Int32) = nm1 from rfl, stv_m1 (by omega)]; exact hx0)), hw_gR0_2 hG, hw_gR0_3 hG, hw_gR23_1 hG, hr23 hG _ _ (by omega), e23, hw_cV15 hG, show f_X10_isRuled (w + 15) (nI (v 42 (v 4 q))) (nI own) 1 (nI (v 6 p)) (prr H z D G S (nI c)) = _ from h_ruled hG C Wf own (v 6 p) (v 42 (v 4 q)) true hown (by omega) (by omega), bd_some]
      by_cases ho : ovr v own (v 6 p) true (ch v 1 (v 42 (v 4 q))) = true
      · rw [if_neg (show ¬ bn (ovr v own (v 6 p) true (ch v 1 (v 42 (v 4 q)))) = 0 by rw [ho]; decide), rr_2, rr_0, rr_d st hst, v1 st hst, rw_s (v 4 q) (by omega), show nI q + 1 = nI (q + 1) from al_add q 1]
        have es : stv (d st) + 1 = nI (d st) := by
          unfold stv
          rw [if_neg hd0, show nI (d st - 1) + 1 = nI (d st - 1 + 1) from al_add _ 1, show d st - 1 + 1 = d st by omega]
        refine ⟨_, fun j => if j = v 4 q then d st + 1 else x j, rfl, ⟨v1, v2, ?_, v4, v5, ?_⟩, ?_⟩
        · intro j hj
          unfold upd
          show _ = stv (if j = v 4 q then d st + 1 else x j)
          by_cases e : j = v 4 q
          · rw [if_pos e, if_pos e, es]; rfl
          · rw [if_neg e, if_neg e]; exact v3 j hj
        · intro j
          show (if j = v 4 q then d st + 1 else x j) < 1000
          have := v6 j
          split <;> omega
        · intro j
          refine ⟨fun g1 => if_neg (fun e => g1 (by rw [e]; exact hx0)), fun _ g2 => if_pos g2.2.1.symm, fun g1 g2 => (if_neg (fun e => g2 ⟨rfl, e.symm, by rw [e]; exact ho⟩)).trans g1⟩
      · rw [if_pos (show bn (ovr v own (v 6 p) true (ch v 1 (v 42 (v 4 q)))) = 0 by rw [show ovr v own (v 6 p) true (ch v 1 (v 42 (v 4 q))) = false by simpa using ho]; decide)]
        exact no (fun e => ho e.2.2)
    · rw [if_pos (show ¬ stv (x (v 4 q)) = -1 by rw [show (-1 : Int32) = nm1 from rfl, stv_m1 (by omega)]; exact hx0)]
      exact no (fun e => hx0 e.2.1)
  · have hb0 : b = false := by simpa using hb1
    subst hb0
    rw [if_pos (show bn false = 0 by decide)]
    exact no (fun e => hb1 e.1)
theorem c_la_l (hW : Hw H w W) (hw : w + 28 ≤ z + 92) (C : ClsV W v) (Wf : WFv v) (p st own : Nat) (b : Bool) (hst : st < 9) (hown : own < 100) (hp : p < 16) (L : Nat → Nat → Nat → Int32 → Int32 → Nat → Int32 → Int32 → Int32 → Int32 → jh → Option (Unit × jh)) (hL : ∀ f, L (f + 1) = f_X7_lookAround_h59 (fun h41 => some ((), h41)) (L f)) : ∀ k i f (D G S : Nat → Int32) (c : Nat) (d Q x : Nat → Nat), i + k = 16 → k + 1 ≤ f → RV D G S c d Q x → d st ≠ 0 → d st < 900 →
    ∃ D' G' S' c' d' Q' x', L f (z + 92) w (nI p) (nI st) (w + 1) (nI own) (bn b) (nI (v 6 p)) (nI i) (prr H z D G S (nI c)) = some ((), prr H z D' G' S' (nI c')) ∧ RV D' G' S' c' d' Q' x' ∧ ADD d (d st + 1) (fun us => ∃ q, i ≤ q ∧ q < 16 ∧ okq v p q = true ∧ v 3 q = us ∧ us ≠ own ∧ ovr v own (v 6 p) b (ch v 1 us) = true) d' ∧ QX c Q d c' Q' d' (d st + 1) ∧ ADD x (d st + 1) (fun m => b = true ∧ ∃ q, i ≤ q ∧ q < 16 ∧ okq v p q = true ∧ v 4 q = m ∧ ovr v own (v 6 p) true (ch v 1 (v 42 m)) = true) x' := by
  have hc1 := Wf.c1
  have h1 := Wf.pr p hp
  intro k
  induction k with
  | zero =>
    intro i f D G S c d Q x hi hf hV hd0 hd9
    obtain ⟨f, rfl⟩ : ∃ g, f = g + 1 := ⟨f - 1, by omega⟩
    refine ⟨D, G, S, c, d, Q, x, ?_, hV, ADD_id _ _ _ (fun j ⟨q, h2, h3, _⟩ => by omega), QX_id _ _ _ _, ADD_id _ _ _ (fun j ⟨_, q, h2, h3, _⟩ => by omega)⟩
    rw [hL]
    unfold f_X7_lookAround_h59
    rw [if_pos (show (16 : Int32) ≤ nI i by rw [show (16 : Int32) = nI 16 from rfl, al_le (by omega) (by omega)]; omega)]
  | succ k ih =>
    intro i f D G S c d Q x hi hf hV hd0 hd9
    obtain ⟨f, rfl⟩ : ∃ g, f = g + 1 := ⟨f - 1, by omega⟩
    have hq : i < 16 := by omega
    have h2 := Wf.pr i hq
    have hG : Hw (prr H z D G S (nI c)) w W := rr_w hW hw
    have e2 : W 2 i = nI (v 3 i) := C.pa i 2 hq (by decide)
    have skip : (¬ okq v p i = true) → ∃ D' G' S' c' d' Q' x', L f (z + 92) w (nI p) (nI st) (w + 1) (nI own) (bn b) (nI (v 6 p)) (nI i + 1) (prr H z D G S (nI c)) = some ((), prr H z D' G' S' (nI c')) ∧ RV D' G' S' c' d' Q' x' ∧ ADD d (d st + 1) (fun us => ∃ q, i ≤ q ∧ q < 16 ∧ okq v p q = true ∧ v 3 q = us ∧ us ≠ own ∧ ovr v own (v 6 p) b (ch v 1 us) = true) d' ∧ QX c Q d c' Q' d' (d st + 1) ∧ ADD x (d st + 1) (fun m => b = true ∧ ∃ q, i ≤ q ∧ q < 16 ∧ okq v p q = true ∧ v 4 q = m ∧ ovr v own (v 6 p) true (ch v 1 (v 42 m)) = true) x' := by
      intro hno
      rw [show nI i + 1 = nI (i + 1) from al_add i 1]
      obtain ⟨D', G', S', c', d', Q', x', g1, g2, g3, g4, g5⟩ := ih (i + 1) f D G S c d Q x (by omega) (by omega) hV hd0 hd9
      have ne : ∀ q, i ≤ q → okq v p q = true → i + 1 ≤ q := fun q k1 k2 => by
        by_cases e : q = i
        · rw [e] at k2; exact absurd k2 hno
        · omega
      refine ⟨D', G', S', c', d', Q', x', g1, g2, ?_, g4, ?_⟩
      · intro j
        obtain ⟨a1, a2, a3⟩ := g3 j
        exact ⟨a1, fun h5 ⟨q, k1, k2, k3, k4⟩ => a2 h5 ⟨q, ne q k1 k3, k2, k3, k4⟩, fun h5 h6 => a3 h5 (fun ⟨q, k1, k2⟩ => h6 ⟨q, by omega, k2⟩)⟩
      · intro j
        obtain ⟨a1, a2, a3⟩ := g5 j
        exact ⟨a1, fun h5 ⟨k0, q, k1, k2, k3, k4⟩ => a2 h5 ⟨k0, q, ne q k1 k3, k2, k3, k4⟩, fun h5 h6 => a3 h5 (fun ⟨k0, q, k1, k2⟩ => h6 ⟨k0, q, by omega, k2⟩)⟩
    rw [hL]
    unfold f_X7_lookAround_h59
    rw [if_neg (show ¬ (16 : Int32) ≤ nI i by rw [show (16 : Int32) = nI 16 from rfl, al_le (by omega) (by omega)]; omega)]
    by_cases hip : i = p
    · rw [if_pos (by rw [hip])]
      exact skip (by unfold okq; simp [hip])
    · rw [if_neg (by rw [al_eq (by omega) (by omega)]; exact hip), hw_cV1 hG, h_has hG C i hq, bd_some]
      by_cases h0 : v 0 i = 1
      · rw [decide_eq_true h0, if_neg (show ¬ bn true = 0 by decide), hw_cV0 hG, h_sees hG C Wf p i hp hq, bd_some]
        by_cases hs : sesV v p i = true
        · have hok : okq v p i = true := by unfold okq; simp [h0, hip, hs]
          rw [hs, if_pos (show ¬ bn true = 0 by decide), hw_gR1_2 hG, hr2 hG i _ hq, e2]
          -- from the mount space on
          have rest : ∀ (D1 G1 : Nat → Int32) (c1 : Nat) (d1 Q1 : Nat → Nat), RV D1 G1 S c1 d1 Q1 x → ADD d (d st + 1) (fun us => v 3 i = us ∧ us ≠ own ∧ ovr v own (v 6 p) b (ch v 1 us) = true) d1 → QX c Q d c1 Q1 d1 (d st + 1) → ∃ D' G' S' c' d' Q' x', f_X7_lookAround_b144 (L f) (fun h41 => some ((), h41)) (z + 92) w (nI p) (nI st) (w + 1) (nI own) (bn b) (nI (v 6 p)) (nI i) (prr H z D1 G1 S (nI c1)) = some ((), prr H z D' G' S' (nI c')) ∧ RV D' G' S' c' d' Q' x' ∧ ADD d (d st + 1) (fun us => ∃ q, i ≤ q ∧ q < 16 ∧ okq v p q = true ∧ v 3 q = us ∧ us ≠ own ∧ ovr v own (v 6 p) b (ch v 1 us) = true) d' ∧ QX c Q d c' Q' d' (d st + 1) ∧ ADD x (d st + 1) (fun m => b = true ∧ ∃ q, i ≤ q ∧ q < 16 ∧ okq v p q = true ∧ v 4 q = m ∧ ovr v own (v 6 p) true (ch v 1 (v 42 m)) = true) x' := by
            intro D1 G1 c1 d1 Q1 hV1 hA1 hQ1
            have ed : d1 st = d st := (hA1 st).1 hd0
            obtain ⟨S1, x1, k1, k2, k3⟩ := c_la144 (z := z) hW hw C Wf p st own i b hst hown hp hq hV1 (by rw [ed]; exact hd0) (by rw [ed]; exact hd9) (L f) (fun h41 => some ((), h41))
            rw [ed] at k3
            obtain ⟨D', G', S', c', d', Q', x', g1, g2, g3, g4, g5⟩ := ih (i + 1) f D1 G1 S1 c1 d1 Q1 x1 (by omega) (by omega) k2 (by rw [ed]; exact hd0) (by rw [ed]; exact hd9)
            rw [ed] at g3 g4 g5
            refine ⟨D', G', S', c', d', Q', x', k1.trans g1, g2, ADD_tr (by omega) hA1 g3 (fun j => ?_), QX_tr (by omega) hQ1 g4 g3, ADD_tr (by omega) k3 g5 (fun j => ?_)⟩
            · constructor
              · rintro ⟨q, m1, m2, m3, m4⟩
                by_cases e : q = i
                · rw [e] at m4; exact Or.inl m4
                · exact Or.inr ⟨q, by omega, m2, m3, m4⟩
              · rintro (m4 | ⟨q, m1, m2, m3⟩)
                · exact ⟨i, Nat.le_refl _, hq, hok, m4⟩
                · exact ⟨q, by omega, m2, m3⟩
            · constructor
              · rintro ⟨m0, q, m1, m2, m3, m4⟩
                by_cases e : q = i
                · rw [e] at m4; exact Or.inl ⟨m0, m4⟩
                · exact Or.inr ⟨m0, q, by omega, m2, m3, m4⟩
              · rintro (⟨m0, m4⟩ | ⟨m0, q, m1, m2, m3⟩)
                · exact ⟨m0, i, Nat.le_refl _, hq, hok, m4⟩
                · exact ⟨m0, q, by omega, m2, m3⟩
          have stay : (¬ (v 3 i ≠ own ∧ ovr v own (v 6 p) b (ch v 1 (v 3 i)) = true)) → _ := fun hno => rest D G c d Q hV (ADD_id _ _ _ (fun j hj => hno (by obtain ⟨rfl, m2⟩ := hj; exact m2))) (QX_id _ _ _ _)
          by_cases hu1 : v 3 i = own
          · rw [if_pos (by rw [hu1])]
            exact stay (fun e => e.1 hu1)
          · rw [if_neg (by rw [al_eq (by omega) (by omega)]; exact hu1), hw_gR0_2 hG, hw_cV15 hG, h_ruled hG C Wf own (v 6 p) (v 3 i) b hown (by omega) (by omega), bd_some]
            by_cases ho : ovr v own (v 6 p) b (ch v 1 (v 3 i)) = true
            · have es : stv (d st) + 1 = nI (d st) := by
                unfold stv
                rw [if_neg hd0, show nI (d st - 1) + 1 = nI (d st - 1 + 1) from al_add _ 1, show d st - 1 + 1 = d st by omega]
              rw [if_neg (show ¬ bn (ovr v own (v 6 p) b (ch v 1 (v 3 i))) = 0 by rw [ho]; decide), rr_0, rr_d st hst, hV.1 st hst, es, rr_c]
              obtain ⟨D1, G1, c1, d1, Q1, m1, m2, m3, m4⟩ := c_reachS (H := H) (z := z) hV (v 3 i) (d st) (by omega) hd9
              rw [m1, bd_some]
              refine rest D1 G1 c1 d1 Q1 m2 ?_ m4
              intro j
              obtain ⟨a1, a2, a3⟩ := m3 j
              exact ⟨a1, fun h5 h6 => a2 h5 h6.1.symm, fun h5 h6 => a3 h5 (fun e => h6 ⟨e.symm, by rw [e]; exact hu1, by rw [e]; exact ho⟩)⟩
            · rw [if_pos (show bn (ovr v own (v 6 p) b (ch v 1 (v 3 i))) = 0 by rw [show ovr v own (v 6 p) b (ch v 1 (v 3 i)) = false by simpa using ho]; decide)]
              exact stay (fun e => ho e.2)
        · have hs0 : sesV v p i = false := by simpa using hs
          rw [hs0, if_neg (show ¬ ¬ bn false = 0 by decide)]
          exact skip (by unfold okq; simp [hs0])
      · rw [decide_eq_false h0, if_pos (show bn false = 0 by decide)]
        exact skip (by unfold okq; simp [h0])
end LAB
