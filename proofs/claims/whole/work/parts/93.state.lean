/-! a State of the class in a heap -/
abbrev ta : Type := vw × Nat × (Nat → vw) × Nat × ms
/-- all below the top but what P names stays -/
def Fz (H H' : jh) (P : Nat → Prop) : Prop := H.1 ≤ H'.1 ∧ ∀ q, q < H.1 → ¬ P q → H'.2.2 q = H.2.2 q
def av (P : Nat → Prop) (a n : Nat) : Prop := ∀ q, a ≤ q → q < a + n → ¬ P q
theorem Fz_id (H : jh) (P : Nat → Prop) : Fz H H P := ⟨Nat.le_refl _, fun _ _ _ => rfl⟩
theorem Fz.tr {H H' H'' : jh} {P : Nat → Prop} (h1 : Fz H H' P) (h2 : Fz H' H'' P) : Fz H H'' P := ⟨Nat.le_trans h1.1 h2.1, fun q hq hp => (h2.2 q (Nat.lt_of_lt_of_le hq h1.1) hp).trans (h1.2 q hq hp)⟩
theorem Fz.mono {H H' : jh} {P P' : Nat → Prop} (h : Fz H H' P) (hp : ∀ q, P q → P' q) : Fz H H' P' := ⟨h.1, fun q hq h1 => h.2 q hq (fun h2 => h1 (hp q h2))⟩
theorem Fr.z {H H' : jh} {a n : Nat} (h : Fr H H' a n) : Fz H H' (fun q => a ≤ q ∧ q < a + n) := ⟨Nat.le_of_eq h.1.symm, fun q _ hp => h.2.2 q hp⟩
theorem Hw.fz {H H' : jh} {w : Nat} {W : ms} {P : Nat → Prop} (h : Hw H w W) (F : Fz H H' P) (ht : w + 28 ≤ H.1) (ha : av P w 28) : Hw H' w W := fun d hd => by rw [F.2 _ (by omega) (ha _ (by omega) (by omega))]; exact h d hd
theorem HV.fz {H H' : jh} {w : Nat} {v : vw} {P : Nat → Prop} (h : HV H w v) (F : Fz H H' P) (ht : w + 28 ≤ H.1) (ha : av P w 28) : HV H' w v := by obtain ⟨W, h1, h2⟩ := h; exact ⟨W, h1.fz F ht ha, h2⟩
theorem HB.fz {H H' : jh} {w : Nat} {P : Nat → Prop} (h : HB H w) (F : Fz H H' P) (ht : w + 28 ≤ H.1) (ha : av P w 28) : HB H' w := by obtain ⟨W, h1⟩ := h; exact ⟨W, h1.fz F ht ha⟩
def StC (H : jh) (a : Nat) (Q : Nat → Option Nat) (x k c : Int32) (n1 n2 n3 rf : Nat → Int32) : Prop :=
  H.2.2 a = jO 6 [.ref (a + 1), .ref (a + 29), .ref (a + 30), .ref (a + 34), .int x, .int k] ∧ H.2.2 (a + 29) = jQ 2 41 Q ∧ H.2.2 (a + 30) = jO 1 [.ref (a + 31), .ref (a + 32), .ref (a + 33), .int c] ∧ H.2.2 (a + 31) = jI 8 n1 ∧ H.2.2 (a + 32) = jI 8 n2 ∧ H.2.2 (a + 33) = jI 8 n3 ∧ H.2.2 (a + 34) = jI 3 rf
/-- the State's own cells, its World's aside -/
def sown (a : Nat) (q : Nat) : Prop := q = a ∨ (a + 29 ≤ q ∧ q < a + 35)
theorem StC.fz {H H' : jh} {a : Nat} {Q : Nat → Option Nat} {x k c : Int32} {n1 n2 n3 rf : Nat → Int32} {P : Nat → Prop} (h : StC H a Q x k c n1 n2 n3 rf) (F : Fz H H' P) (ht : a + 35 ≤ H.1) (ha : ∀ q, sown a q → ¬ P q) : StC H' a Q x k c n1 n2 n3 rf := by
  have e : ∀ q, sown a q → H'.2.2 q = H.2.2 q := fun q hq => F.2 q (by unfold sown at hq; omega) (ha q hq)
  unfold sown at e
  refine ⟨?_, ?_, ?_, ?_, ?_, ?_, ?_⟩
  · rw [e _ (by omega)]; exact h.1
  · rw [e _ (by omega)]; exact h.2.1
  · rw [e _ (by omega)]; exact h.2.2.1
  · rw [e _ (by omega)]; exact h.2.2.2.1
  · rw [e _ (by omega)]; exact h.2.2.2.2.1
  · rw [e _ (by omega)]; exact h.2.2.2.2.2.1
  · rw [e _ (by omega)]; exact h.2.2.2.2.2.2
def rgi (x k i : Nat) : Nat := (x + 41 - (k - i)) % 41
def SC (H : jh) (a : Nat) (Q : Nat → Option Nat) (T : ta) : Prop := ∃ (x : Nat) (n1 n2 n3 rf : Nat → Int32), StC H a Q (nI x) (nI T.2.1) (nI T.2.2.2.1) n1 n2 n3 rf ∧ HV H (a + 1) T.1 ∧ x < 41 ∧ (∀ i, i < T.2.1 → ∃ b, Q (rgi x T.2.1 i) = some b ∧ HV H b (T.2.2.1 i)) ∧ (∀ j, j < T.2.2.2.1 → n1 j = T.2.2.2.2 0 j ∧ n2 j = T.2.2.2.2 1 j ∧ n3 j = T.2.2.2.2 2 j) ∧ (∀ j, j < 3 → rf j = T.2.2.2.2 3 j)
def SX (H : jh) (a : Nat) (Q : Nat → Option Nat) : Prop := ∃ (x k c : Int32) (n1 n2 n3 rf : Nat → Int32), StC H a Q x k c n1 n2 n3 rf ∧ HB H (a + 1)
theorem SC.b {H : jh} {a : Nat} {Q : Nat → Option Nat} {T : ta} (h : SC H a Q T) : SX H a Q := by
  obtain ⟨x, n1, n2, n3, rf, h1, h2, -⟩ := h
  exact ⟨_, _, _, _, _, _, _, h1, h2.b⟩
/-- where the Worlds of a ring lie -/
def QA (top : Nat) (Q : Nat → Option Nat) : Prop := ∀ k b, k < 41 → Q k = some b → b + 28 ≤ top
theorem rgi_lt (x k i : Nat) : rgi x k i < 41 := Nat.mod_lt _ (by decide)
theorem SC.fz {H H' : jh} {a : Nat} {Q : Nat → Option Nat} {T : ta} {P : Nat → Prop} (h : SC H a Q T) (F : Fz H H' P) (ht : a + 35 ≤ H.1) (ha : av P a 35) (hq : ∀ k b, k < 41 → Q k = some b → b + 28 ≤ H.1 ∧ av P b 28) : SC H' a Q T := by
  obtain ⟨x, n1, n2, n3, rf, h1, h2, h3, h4, h5⟩ := h
  refine ⟨x, n1, n2, n3, rf, h1.fz F ht (fun q hq => ha q (by unfold sown at hq; omega) (by unfold sown at hq; omega)), h2.fz F (by omega) (fun q g1 g2 => ha q (by omega) (by omega)), h3, ?_, h5⟩
  intro i hi
  obtain ⟨b, g1, g2⟩ := h4 i hi
  have := hq _ b (rgi_lt _ _ _) g1
  exact ⟨b, g1, g2.fz F this.1 this.2⟩
theorem SX.fz {H H' : jh} {a : Nat} {Q : Nat → Option Nat} {P : Nat → Prop} (h : SX H a Q) (F : Fz H H' P) (ht : a + 35 ≤ H.1) (ha : av P a 35) : SX H' a Q := by
  obtain ⟨x, k, c, n1, n2, n3, rf, h1, h2⟩ := h
  exact ⟨x, k, c, n1, n2, n3, rf, h1.fz F ht (fun q hq => ha q (by unfold sown at hq; omega) (by unfold sown at hq; omega)), h2.fz F (by omega) (fun q g1 g2 => ha q (by omega) (by omega))⟩
/-! the places of the Worlds that were made on the way -/
def DA (z top : Nat) (D : Nat → Option Nat) (I : Option Nat) : Prop :=
  (∀ k b, k < 82 → D k = some b → z + 120 ≤ b ∧ b + 28 ≤ top) ∧ (∀ k l b c, k < 82 → l < 82 → k ≠ l → D k = some b → D l = some c → b + 28 ≤ c ∨ c + 28 ≤ b) ∧
  (∀ i, I = some i → z + 120 ≤ i ∧ i + 35 ≤ top) ∧ (∀ i k b, I = some i → k < 82 → D k = some b → i + 35 ≤ b ∨ b + 28 ≤ i)
theorem DA.top {z t t' : Nat} {D : Nat → Option Nat} {I : Option Nat} (h : DA z t D I) (ht : t ≤ t') : DA z t' D I :=
  ⟨fun k b hk hb => by have := h.1 k b hk hb; omega, h.2.1, fun i hi => by have := h.2.2.1 i hi; omega, h.2.2.2⟩
theorem DA.new {z t : Nat} {D : Nat → Option Nat} {I : Option Nat} (h : DA z t D I) (hz : z + 120 ≤ t) (j : Nat) (hj : D j = none) : DA z (t + 28) (va_up D j (some t)) I := by
  have u : ∀ k, va_up D j (some t) k = if k = j then some t else D k := fun k => rfl
  refine ⟨?_, ?_, ?_, ?_⟩
  · intro k b hk hb
    rw [u] at hb
    by_cases h1 : k = j
    · rw [if_pos h1] at hb; cases hb; omega
    · rw [if_neg h1] at hb; have := h.1 k b hk hb; omega
  · intro k l b c hk hl hne hb hc
    rw [u] at hb hc
    by_cases h1 : k = j
    · rw [if_pos h1] at hb; cases hb
      rw [if_neg (by omega)] at hc
      have := h.1 l c hl hc; omega
    · rw [if_neg h1] at hb
      by_cases h2 : l = j
      · rw [if_pos h2] at hc; cases hc
        have := h.1 k b hk hb; omega
      · rw [if_neg h2] at hc; exact h.2.1 k l b c hk hl hne hb hc
  · intro i hi; have := h.2.2.1 i hi; omega
  · intro i k b hi hk hb
    rw [u] at hb
    have g := h.2.2.1 i hi
    by_cases h1 : k = j
    · rw [if_pos h1] at hb; cases hb; omega
    · rw [if_neg h1] at hb; exact h.2.2.2 i k b hi hk hb
def nfr (D : Nat → Option Nat) : Nat := cnt (fun k => (D k).isNone) 82 0
theorem cnt_up {P Q : Nat → Bool} (j : Nat) (hj : P j = true) (hq : Q j = false) (h : ∀ k, k ≠ j → Q k = P k) : ∀ k i, cnt Q k i + (if i ≤ j ∧ j < i + k then 1 else 0) = cnt P k i := by
  intro k
  induction k with
  | zero => intro i; rw [cnt, cnt, if_neg (by omega)]
  | succ k ih =>
    intro i
    have g := ih (i + 1)
    rw [cnt, cnt]
    by_cases h1 : i = j
    · subst h1
      rw [hj, hq]
      rw [if_neg (by omega)] at g
      simp
      omega
    · rw [h i h1]
      generalize (if P i = true then 1 else 0) = y
      by_cases h2 : i + 1 ≤ j ∧ j < i + 1 + k
      · rw [if_pos h2] at g
        have e : (if i ≤ j ∧ j < i + (k + 1) then 1 else 0) = 1 := if_pos (by omega)
        omega
      · rw [if_neg h2] at g
        have e : (if i ≤ j ∧ j < i + (k + 1) then 1 else 0) = 0 := if_neg (by omega)
        omega
theorem nfr_new {D : Nat → Option Nat} (j b : Nat) (hj : j < 82) (hd : D j = none) : nfr (va_up D j (some b)) + 1 = nfr D := by
  have := cnt_up (P := fun k => (D k).isNone) (Q := fun k => (va_up D j (some b) k).isNone) j (by rw [hd]; rfl) (by show (if j = j then some b else D j).isNone = false; rw [if_pos rfl]; rfl) (fun k hk => by show (if k = j then some b else D k).isNone = _; rw [if_neg hk]) 82 0
  rw [if_pos (by omega)] at this
  exact this
theorem nq_none {β : Type} (A : Option β) (B : Nat → Option β) : nq none A B = A := rfl
theorem nq_some {β : Type} (a : Nat) (A : Option β) (B : Nat → Option β) : nq (some a) A B = B a := rfl
theorem nn_some {β : Type} (a : Nat) (B : Nat → Option β) : nn (some a) B = B a := rfl
/-! the row at a place of the ring -/
theorem k_rowAt {z : Nat} {H : jh} {a : Nat} {Q D : Nat → Option Nat} {I : Option Nat} {x k c : Int32} {n1 n2 n3 rf : Nat → Int32} (S : StC H a Q x k c n1 n2 n3 rf) (ht : a + 35 ≤ H.1) (hz : z + 120 ≤ H.1) (A : DA z H.1 D I) (hB : ∀ k b, k < 41 → Q k = some b → HB H b) (off : Nat) (ho : off = 0 ∨ off = 41) (hD : ∀ j, j < 41 → D (off + j) = Q j) (j : Nat) (hj : j < 41) :
    ∃ b H1 Q1 D1, f_X8_rowAt a (nI j) H = some (some b, H1) ∧ StC H1 a Q1 x k c n1 n2 n3 rf ∧ HB H1 b ∧ Q1 j = some b ∧ (∀ i, i ≠ j → Q1 i = Q i) ∧ (∀ b', Q j = some b' → b' = b) ∧ Fz H H1 (fun q => q = a + 29) ∧ DA z H1.1 D1 I ∧ (∀ i, i ≠ off + j → D1 i = D i) ∧ D1 (off + j) = some b ∧ H1.1 + 28 * nfr D1 = H.1 + 28 * nfr D ∧ H1.2.1 + 465 * nfr D1 = H.2.1 + 465 * nfr D ∧ (Q j = none → b = H.1) := by
  unfold f_X8_rowAt
  rw [gR_of S.1 rfl, aQ_of S.2.1 hj (by decide)]
  cases hq : Q j with
  | some b =>
    refine ⟨b, H, Q, D, rfl, S, hB j b hj hq, hq, fun _ _ => rfl, (fun b' h => by cases h; rfl), Fz_id _ _, A, fun _ _ => rfl, by rw [hD j hj]; exact hq, rfl, rfl, (fun h => by cases h)⟩
  | none =>
    have hdn : D (off + j) = none := by rw [hD j hj]; exact hq
    have S1 : StC (ext H (wls H.1) 465) a Q x k c n1 n2 n3 rf := S.fz (P := fun _ => False) ⟨by show H.1 ≤ H.1 + _; omega, fun q hq _ => ext_out (by omega)⟩ ht (fun _ _ h => h)
    have h9 : (ext H (wls H.1) 465).2.2 H.1 = jO 9 (wo0 H.1 W0) := ext_at (d := 0) (wls_at H.1 0 (by decide))
    have hw : Hw (ext H (wls H.1) 465) H.1 W0 := fun d hd => ext_at (wls_at H.1 d hd)
    refine ⟨H.1, jv_wr (ext H (wls H.1) 465) (a + 29) (jQ 2 41 (va_up Q j (some H.1))), va_up Q j (some H.1), va_up D (off + j) (some H.1), ?_, ?_, ?_, if_pos rfl, fun i hi => if_neg hi, (fun b' h => by cases h), ?_, ?_, fun i hi => if_neg hi, if_pos rfl, ?_, ?_, fun _ => rfl⟩
    · rw [nq_none, nO_0, i_X11, bd_some, gR_of S1.1 rfl, sW_of S1.2.1 h9 hj (by decide)]
    · refine ⟨?_, ?_, ?_, ?_, ?_, ?_, ?_⟩
      · rw [wr_ne _ _ _ _ (by omega)]; exact S1.1
      · rw [wr_at]
      · rw [wr_ne _ _ _ _ (by omega)]; exact S1.2.2.1
      · rw [wr_ne _ _ _ _ (by omega)]; exact S1.2.2.2.1
      · rw [wr_ne _ _ _ _ (by omega)]; exact S1.2.2.2.2.1
      · rw [wr_ne _ _ _ _ (by omega)]; exact S1.2.2.2.2.2.1
      · rw [wr_ne _ _ _ _ (by omega)]; exact S1.2.2.2.2.2.2
    · exact ⟨W0, hw.fr (Fr_wr _ _ _) (by omega)⟩
    · refine ⟨by show H.1 ≤ H.1 + _; omega, fun q hq hp => ?_⟩
      rw [wr_ne _ _ _ _ hp]; exact ext_out (by omega)
    · exact A.new hz _ hdn
    · have := nfr_new (D := D) (off + j) H.1 (by omega) hdn
      show H.1 + 28 + _ = _
      omega
    · have := nfr_new (D := D) (off + j) H.1 (by omega) hdn
      show H.2.1 + 465 + _ = _
      omega
