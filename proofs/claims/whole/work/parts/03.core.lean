/-! the layer jv: an abstract heap by addresses, a judgement of one method's frame over it, rows -/
abbrev jc : Type := (Nat × (Nat → Int32)) ⊕ ((Nat × (Nat → Int64)) ⊕ ((Nat × Nat × (Nat → Option Nat)) ⊕ (Nat × List Value)))
abbrev jh : Type := Nat × Nat × (Nat → jc)
abbrev jx : Type := Launch × va_G × Heap × (Nat → ClassId) × (Nat → Nat) × Nat × (Nat → Int32)
abbrev jm : Type := MethodName × ByteArray × Nat × Option FieldType × Nat × Nat × List (Nat × Nat × Nat × Nat)
abbrev jr : Type := (Option Value) ⊕ String
abbrev jI (n : Nat) (f : Nat → Int32) : jc := .inl (n, f)
abbrev jL (n : Nat) (f : Nat → Int64) : jc := .inr (.inl (n, f))
abbrev jQ (t n : Nat) (f : Nat → Option Nat) : jc := .inr (.inr (.inl (t, n, f)))
abbrev jO (ci : Nat) (fs : List Value) : jc := .inr (.inr (.inr (ci, fs)))
def jv_abs : jc := jO 99 []
abbrev jv_z (X : jx) : Nat := X.2.2.1.size
abbrev jv_ad (X : jx) : Nat → Nat := X.2.2.2.2.1
abbrev jv_A (X : jx) : Nat → Prop := fun q => jv_z X ≤ q
def jv_e (X : jx) (c : jc) : va_E := match c with
  | .inl (n, f) => .inl (X.2.2.2.1 0, n, .inl f)
  | .inr (.inl (n, f)) => .inl (X.2.2.2.1 1, n, .inr (.inl f))
  | .inr (.inr (.inl (t, n, f))) => .inl (X.2.2.2.1 t, n, .inr (.inr (.inr (.inr (if t = 3 then fun j => (f j).map (fun k => X.2.2.2.2.1 (20 + k)) else f)))))
  | .inr (.inr (.inr (ci, fs))) => .inr (ci, fs)
def jv_H (X : jx) (h : jh) (H : Heap) : Prop := H.size = h.1 ∧ jv_z X ≤ h.1 ∧ (∀ q, q < jv_z X → H[q]? = X.2.2.1[q]?) ∧ ∀ q, h.2.2 q = jv_abs ∨ (jv_z X ≤ q ∧ q < h.1 ∧ va_at X.2.1 vwCl (q, jv_e X (h.2.2 q)) H)
theorem jv_H.at {X : jx} {h : jh} {H : Heap} (hH : jv_H X h H) {a : Nat} {c : jc} (hc : h.2.2 a = c) (hn : c ≠ jv_abs) : jv_z X ≤ a ∧ a < h.1 ∧ va_at X.2.1 vwCl (a, jv_e X c) H := by
  subst hc
  rcases hH.2.2.2 a with h1 | h1
  · exact absurd h1 hn
  · exact h1
def jv_wr (h : jh) (a : Nat) (c : jc) : jh := (h.1, h.2.1, fun q => if q = a then c else h.2.2 q)
def jv_al (h : jh) (c : jc) (n : Nat) : jh := (h.1 + 1, h.2.1 + n, fun q => if q = h.1 then c else h.2.2 q)
theorem jv_H.wr {X : jx} {h : jh} {H H1 : Heap} (hH : jv_H X h H) {a : Nat} {c : jc} (ha : jv_z X ≤ a) (ha2 : a < h.1) (hz : H1.size = H.size) (ho : ∀ q, q ≠ a → H1[q]? = H[q]?) (hc : va_at X.2.1 vwCl (a, jv_e X c) H1) : jv_H X (jv_wr h a c) H1 := by
  obtain ⟨h1, h2, h3, h4⟩ := hH
  refine ⟨hz.trans h1, h2, fun q hq => ?_, fun q => ?_⟩
  · rw [ho q (by omega)]; exact h3 q hq
  · by_cases hq : q = a
    · subst hq
      exact Or.inr ⟨ha, ha2, by simpa [jv_wr] using hc⟩
    · rcases h4 q with h5 | ⟨h5, h6, h7⟩
      · left; simpa [jv_wr, hq] using h5
      · right
        refine ⟨h5, h6, ?_⟩
        have h8 : (jv_wr h a c).2.2 q = h.2.2 q := by simp [jv_wr, hq]
        rw [h8]
        exact h7.kept (ho q hq)
theorem jv_H.al {X : jx} {h : jh} {H H1 : Heap} (hH : jv_H X h H) {c : jc} {n : Nat} (hz : H1.size = h.1 + 1) (ho : ∀ q, q < h.1 → H1[q]? = H[q]?) (hc : va_at X.2.1 vwCl (h.1, jv_e X c) H1) : jv_H X (jv_al h c n) H1 := by
  obtain ⟨h1, h2, h3, h4⟩ := hH
  refine ⟨hz, by simp only [jv_al]; omega, fun q hq => ?_, fun q => ?_⟩
  · rw [ho q (by omega)]; exact h3 q hq
  · by_cases hq : q = h.1
    · subst hq
      exact Or.inr ⟨h2, by simp [jv_al], by simpa [jv_al] using hc⟩
    · rcases h4 q with h5 | ⟨h5, h6, h7⟩
      · left; simpa [jv_al, hq] using h5
      · right
        refine ⟨h5, by simp only [jv_al]; omega, ?_⟩
        have h8 : (jv_al h c n).2.2 q = h.2.2 q := by simp [jv_al, hq]
        rw [h8]
        exact h7.kept (ho q h6)
/-! locals -/
def jv_L (L : List (Option Value)) (ls : Array Slot) : Prop := ls.size = L.length ∧ lv_wf ls ∧ ∀ (i : Nat) (v : Value), L[i]? = some (some v) → v.category = 1 ∧ ls[i]? = some (.val v)
def jv_ps (L : List (Option Value)) : List (Nat × Value) := (List.range L.length).filterMap fun i => match L[i]? with
  | some (some v) => some (i, v)
  | _ => none
theorem jv_ps_mem {L : List (Option Value)} {q : Nat × Value} : q ∈ jv_ps L ↔ L[q.1]? = some (some q.2) := by
  unfold jv_ps
  rw [List.mem_filterMap]
  constructor
  · rintro ⟨i, -, h2⟩
    split at h2
    · next v hv => cases h2; exact hv
    · cases h2
  · intro h
    refine ⟨q.1, ?_, by rw [h]⟩
    rw [List.mem_range]
    exact (List.getElem?_eq_some_iff.mp h).1
theorem jv_L.has {L : List (Option Value)} {ls : Array Slot} (h : jv_L L ls) : lv_has ls L.length (jv_ps L) := ⟨h.1, h.2.1, fun q hq => (h.2.2 q.1 q.2 (jv_ps_mem.mp hq)).2⟩
theorem jv_L.st {L : List (Option Value)} {ls ls' : Array Slot} (h : jv_L L ls) {i : Nat} {v : Value} (hi : i < L.length) (hv : v.category = 1)
    (h' : lv_has ls' L.length ((i, v) :: (jv_ps L).filter (fun q => !(q.1 == i) && !(q.1 + 1 == i && q.2.category == 2)))) : jv_L (L.set i (some v)) ls' := by
  refine ⟨by rw [List.length_set]; exact h'.1, h'.2.1, fun j w hj => ?_⟩
  by_cases hji : i = j
  · subst hji
    rw [List.getElem?_set_self (by simpa using hi)] at hj
    have : w = v := by injection (Option.some.inj hj).symm
    subst this
    exact ⟨hv, h'.2.2 (i, w) List.mem_cons_self⟩
  · rw [List.getElem?_set_ne hji] at hj
    obtain ⟨c1, -⟩ := h.2.2 j w hj
    refine ⟨c1, h'.2.2 (j, w) (List.mem_cons_of_mem _ (List.mem_filter.mpr ⟨jv_ps_mem.mpr hj, ?_⟩))⟩
    have h1 : (j == i) = false := by simp; omega
    have h2 : (w.category == 2) = false := by rw [c1]; rfl
    simp [h1, h2]
/-- fewer locals -/
def jv_le : List (Option Value) → List (Option Value) → Prop
  | [], [] => True
  | a :: l, b :: l' => (a = none ∨ a = b) ∧ jv_le l l'
  | _, _ => False
theorem jv_le_spec : ∀ {l l' : List (Option Value)}, jv_le l l' → l.length = l'.length ∧ ∀ (i : Nat) (v : Value), l[i]? = some (some v) → l'[i]? = some (some v)
  | [], [], _ => ⟨rfl, fun i v h => by simp at h⟩
  | [], _ :: _, h => False.elim h
  | _ :: _, [], h => False.elim h
  | a :: l, b :: l', ⟨h1, h2⟩ => by
    obtain ⟨e1, e2⟩ := jv_le_spec h2
    refine ⟨by simp [e1], fun i v h => ?_⟩
    cases i with
    | zero =>
      simp only [List.getElem?_cons_zero, Option.some.injEq] at h ⊢
      rcases h1 with h1 | h1
      · rw [h1] at h; cases h
      · rw [← h1]; exact h
    | succ i =>
      simp only [List.getElem?_cons_succ] at h ⊢
      exact e2 i v h
theorem jv_L.le {l l' : List (Option Value)} {ls : Array Slot} (h : jv_L l' ls) (hl : jv_le l l') : jv_L l ls := by
  obtain ⟨e1, e2⟩ := jv_le_spec hl
  exact ⟨h.1.trans e1.symm, h.2.1, fun i v hi => h.2.2 i v (e2 i v hi)⟩
/-! the tables' words -/
def jv_nw : Cond → Bool
  | .fieldLinkNest .. => true
  | .methodLinkNest .. => true
  | .castable .. => true
  | .declares _ => true
  | _ => false
def jv_T (U : State) : Prop := ∀ w ∈ lw_tbl, (goodWord w || jv_nw w) = true → w.before #[] U = true
theorem jv_T.warm {s U : State} (hW : s.WarmedH U.vm) (h : jv_T s) : jv_T U := by
  intro w hw hg
  have h1 := h w hw hg
  rw [Bool.or_eq_true] at hg
  rcases hg with hg | hg
  · exact word_at hW (good_of_word hg) h1
  · cases w <;> first | exact va_Nw.warmF hW h1 | exact va_Nw.warmM hW h1 | exact va_Nw.warmC hW h1 | exact va_Nw.warmD hW h1 | cases hg
theorem jv_T.use {U : State} (h : jv_T U) {w : Cond} (hw : w ∈ lw_tbl) (hg : (goodWord w || jv_nw w) = true) (A : Array Value) : w.before A U = true := by
  have h1 := h w hw hg
  rw [Bool.or_eq_true] at hg
  rcases hg with hg | hg
  · exact word_at (State.WarmedH.refl U) (good_of_word hg) h1
  · cases w <;> first | exact va_Nw.use rfl h1 | cases hg
