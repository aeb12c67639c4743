/-! the reference: its other calls that change -/
def rB {α : Type} (h : jh) (m : Nat) (o : Option (α × jh)) (x : α) (T : ta) (hi : Bool) (TI : ta) (fl : Int32) (n : Nat) (tp : Nat → Int32) : Prop := ∃ s', o = some (x, pm h m s') ∧ RS s' T hi TI fl n tp
theorem rs_in {α : Type} {h : jh} {m : Nat} {s : ms} {T : ta} {hi : Bool} {TI : ta} {fl : Int32} {n : Nat} {tp : Nat → Int32} (R : RS s T hi TI fl n tp) (hT : TO T) {x : α} {T' : ta} {hi' : Bool} {TI' : ta} {fl' : Int32} {n' : Nat} {tp' : Nat → Int32} {K : jh → Option (α × jh)} (k : ∀ s1, RS s1 T hi TI fl n tp → rB h m (K (pm h m s1)) x T' hi' TI' fl' n' tp') : rB h m (pV (pm h m s) m 11 1 (.int (0)) K) x T' hi' TI' fl' n' tp' := by
  rw [pm_pV1, st2_sw]
  exact k _ (RS_eq R hT.1.1 (SEq_sw s 1 _ (Or.inl rfl)))
theorem rb_ok {α : Type} {h : jh} {m : Nat} {s : ms} {T : ta} {hi : Bool} {TI : ta} {fl : Int32} {n : Nat} {tp : Nat → Int32} (R : RS s T hi TI fl n tp) (x : α) : rB h m (some (x, pm h m s)) x T hi TI fl n tp := ⟨s, rfl, R⟩
/-! acts by call -/
theorem r_call0 {h : jh} {m : Nat} {s : ms} {T : ta} {hi : Bool} {TI : ta} {fl : Int32} {n : Nat} {tp : Nat → Int32} (R : RS s T hi TI fl n tp) (hT : TO T) (x : Int32) : rB h m (f_X13_fork m x (pm h m s)) (dDo T.1 0 x 0 0 0 0).1 (tAct T (dDo T.1 0 x 0 0 0 0)) hi TI fl n tp := by
  unfold f_X13_fork
  refine rs_in R hT (fun s1 R1 => ?_)
  obtain ⟨s', e1, e2⟩ := r_act (h := h) (m := m) R1 hT 0 x 0 0 0 0 (by decide) (fun e => absurd e (by decide)) (fun e => absurd e (by decide))
  rw [pm_cV, show f_X13_act m 0 x 0 0 0 0 (pm h m s1) = _ from e1, bd_some]
  exact ⟨s', rfl, e2⟩
theorem r_call5 {h : jh} {m : Nat} {s : ms} {T : ta} {hi : Bool} {TI : ta} {fl : Int32} {n : Nat} {tp : Nat → Int32} (R : RS s T hi TI fl n tp) (hT : TO T) (x a : Int32) : rB h m (f_X13_become m x a (pm h m s)) (dDo T.1 5 x a 0 0 0).1 (tAct T (dDo T.1 5 x a 0 0 0)) hi TI fl n tp := by
  unfold f_X13_become
  refine rs_in R hT (fun s1 R1 => ?_)
  obtain ⟨s', e1, e2⟩ := r_act (h := h) (m := m) R1 hT 5 x a 0 0 0 (by decide) (fun e => absurd e (by decide)) (fun e => absurd e (by decide))
  rw [pm_cV, show f_X13_act m 5 x a 0 0 0 (pm h m s1) = _ from e1, bd_some]
  exact ⟨s', rfl, e2⟩
theorem r_call6 {h : jh} {m : Nat} {s : ms} {T : ta} {hi : Bool} {TI : ta} {fl : Int32} {n : Nat} {tp : Nat → Int32} (R : RS s T hi TI fl n tp) (hT : TO T) (x a b : Int32) : rB h m (f_X13_mount m x a b (pm h m s)) (dDo T.1 6 x a b 0 0).1 (tAct T (dDo T.1 6 x a b 0 0)) hi TI fl n tp := by
  unfold f_X13_mount
  refine rs_in R hT (fun s1 R1 => ?_)
  obtain ⟨s', e1, e2⟩ := r_act (h := h) (m := m) R1 hT 6 x a b 0 0 (by decide) (fun e => absurd e (by decide)) (fun e => absurd e (by decide))
  rw [pm_cV, show f_X13_act m 6 x a b 0 0 (pm h m s1) = _ from e1, bd_some]
  exact ⟨s', rfl, e2⟩
theorem r_call10 {h : jh} {m : Nat} {s : ms} {T : ta} {hi : Bool} {TI : ta} {fl : Int32} {n : Nat} {tp : Nat → Int32} (R : RS s T hi TI fl n tp) (hT : TO T) (x : Int32) : rB h m (f_X13_share m x (pm h m s)) (dDo T.1 10 x 0 0 0 0).1 (tAct T (dDo T.1 10 x 0 0 0 0)) hi TI fl n tp := by
  unfold f_X13_share
  refine rs_in R hT (fun s1 R1 => ?_)
  obtain ⟨s', e1, e2⟩ := r_act (h := h) (m := m) R1 hT 10 x 0 0 0 0 (by decide) (fun e => absurd e (by decide)) (fun e => absurd e (by decide))
  rw [pm_cV, show f_X13_act m 10 x 0 0 0 0 (pm h m s1) = _ from e1, bd_some]
  exact ⟨s', rfl, e2⟩
theorem r_call8 {h : jh} {m : Nat} {s : ms} {T : ta} {hi : Bool} {TI : ta} {fl : Int32} {n : Nat} {tp : Nat → Int32} (R : RS s T hi TI fl n tp) (hT : TO T) (x : Int32) : rB h m (f_X13_end m x (pm h m s)) (dDo T.1 8 x 0 0 0 0).1 (tAct T (dDo T.1 8 x 0 0 0 0)) hi TI fl n tp := by
  unfold f_X13_end
  refine rs_in R hT (fun s1 R1 => ?_)
  obtain ⟨s', e1, e2⟩ := r_act (h := h) (m := m) R1 hT 8 x 0 0 0 0 (by decide) (fun e => absurd e (by decide)) (fun e => absurd e (by decide))
  rw [pm_cV, show f_X13_act m 8 x 0 0 0 0 (pm h m s1) = _ from e1, bd_some]
  exact ⟨s', rfl, e2⟩
theorem r_call9 {h : jh} {m : Nat} {s : ms} {T : ta} {hi : Bool} {TI : ta} {fl : Int32} {n : Nat} {tp : Nat → Int32} (R : RS s T hi TI fl n tp) (hT : TO T) (x a : Int32) : rB h m (f_X13_kill m x a (pm h m s)) (dDo T.1 9 x a 0 0 0).1 (tAct T (dDo T.1 9 x a 0 0 0)) hi TI fl n tp := by
  unfold f_X13_kill
  refine rs_in R hT (fun s1 R1 => ?_)
  obtain ⟨s', e1, e2⟩ := r_act (h := h) (m := m) R1 hT 9 x a 0 0 0 (by decide) (fun e => absurd e (by decide)) (fun e => absurd e (by decide))
  rw [pm_cV, show f_X13_act m 9 x a 0 0 0 (pm h m s1) = _ from e1, bd_some]
  exact ⟨s', rfl, e2⟩
theorem r_create {h : jh} {m : Nat} {s : ms} {T : ta} {hi : Bool} {TI : ta} {fl : Int32} {n : Nat} {tp : Nat → Int32} (R : RS s T hi TI fl n tp) (hT : TO T) (x k : Int32) : rB h m (f_X13_create m x k (pm h m s)) (if cl k 3 < 3 then (dDo T.1 (if cl k 3 = 0 then 2 else if cl k 3 = 1 then 1 else 3) x 0 0 0 0).1 else nm1) (if cl k 3 < 3 then tAct T (dDo T.1 (if cl k 3 = 0 then 2 else if cl k 3 = 1 then 1 else 3) x 0 0 0 0) else tRef T 1) hi TI fl n tp := by
  unfold f_X13_create
  refine rs_in R hT (fun s1 R1 => ?_)
  rw [r_isIn, show decide ((0 : Int32) ≤ k ∧ k ≤ 2) = decide (cl k 3 < 3) from in_cl k 2 3 rfl (by decide), bd_some]
  rcases i_cases k 3 (by decide) with ⟨w, hw, rfl⟩ | ho
  · rw [cl_in hw (by decide), decide_eq_true hw, if_neg (show ¬ bn true = 0 by decide), if_pos hw, if_pos hw]
    have go : ∀ y : Nat, y < 11 → y ≠ 4 → y ≠ 7 → f_X13_wordOf (nI w) (pm h m s1) = some (nI y, pm h m s1) → (if w = 0 then 2 else if w = 1 then 1 else 3) = y → rB h m (bd (f_X13_wordOf (nI w) (pm h m s1)) fun v7 h8 => cV h8 m 11 (f_X13_act m v7 x 0 0 0 0 h8) fun v9 h10 => some (v9, h10)) (dDo T.1 (if w = 0 then 2 else if w = 1 then 1 else 3) x 0 0 0 0).1 (tAct T (dDo T.1 (if w = 0 then 2 else if w = 1 then 1 else 3) x 0 0 0 0)) hi TI fl n tp := by
      intro y hy h4 h7 ey ew
      obtain ⟨s', e1, e2⟩ := r_act (h := h) (m := m) R1 hT y x 0 0 0 0 hy (fun e => absurd e h4) (fun e => absurd e h7)
      rw [ey, bd_some, pm_cV, e1, bd_some, ew]
      exact ⟨s', rfl, e2⟩
    have hw' : w = 0 ∨ w = 1 ∨ w = 2 := by omega
    rcases hw' with rfl | rfl | rfl
    · exact go 2 (by decide) (by decide) (by decide) rfl rfl
    · exact go 1 (by decide) (by decide) (by decide) rfl rfl
    · exact go 3 (by decide) (by decide) (by decide) rfl rfl
  · rw [cl_out ho, show decide (3 < 3) = false from rfl, if_pos (show bn false = 0 by decide), if_neg (by decide), if_neg (by decide)]
    obtain ⟨s', e1, e2⟩ := r_ref (h := h) (m := m) R1 1 (by decide)
    rw [pm_cV, show f_X13_refuse m 1 (pm h m s1) = _ from e1, bd_some]
    exact ⟨s', rfl, e2⟩
theorem tAct_no (T : ta) (v : vw) (h : v = T.1) : tAct T (nm1, v) = tRef T 1 := by subst h; rfl
theorem r_enter {h : jh} {m : Nat} {s : ms} {T : ta} {hi : Bool} {TI : ta} {fl : Int32} {n : Nat} {tp : Nat → Int32} (R : RS s T hi TI fl n tp) (hT : TO T) (x a k : Int32) : rB h m (f_X13_enter m x a k (pm h m s)) (dDo T.1 7 x a k 0 0).1 (tAct T (dDo T.1 7 x a k 0 0)) hi TI fl n tp := by
  unfold f_X13_enter
  refine rs_in R hT (fun s1 R1 => ?_)
  rw [r_isIn, show decide ((0 : Int32) ≤ k ∧ k ≤ 2) = decide (cl k 3 < 3) from in_cl k 2 3 rfl (by decide), bd_some]
  by_cases hk : cl k 3 < 3
  · rw [decide_eq_true hk, if_neg (show ¬ bn true = 0 by decide)]
    obtain ⟨s', e1, e2⟩ := r_act (h := h) (m := m) R1 hT 7 x a k 0 0 (by decide) (fun e => absurd e (by decide)) (fun _ => hk)
    rw [pm_cV, show f_X13_act m 7 x a k 0 0 (pm h m s1) = _ from e1, bd_some]
    exact ⟨s', rfl, e2⟩
  · have hl := cl_le k 3 (by decide)
    rw [decide_eq_false hk, if_pos (show bn false = 0 by decide)]
    obtain ⟨s', e1, e2⟩ := r_ref (h := h) (m := m) R1 1 (by decide)
    rw [pm_cV, show f_X13_refuse m 1 (pm h m s1) = _ from e1, bd_some]
    have ed : dDo T.1 7 x a k 0 0 = (nm1, T.1) := by
      unfold dDo
      by_cases h1 : cl x 16 < 16 ∧ T.1 0 (cl x 16) = 1
      · rw [if_pos h1, if_neg (by decide), if_neg (by decide), if_neg (by decide), if_neg (by decide), if_neg (by decide), if_neg (by decide), if_neg (by decide), if_pos rfl]
        unfold dEnt
        rw [if_neg (by omega)]
      · rw [if_neg h1]
    rw [ed, tAct_no T _ rfl]
    exact ⟨s', rfl, e2⟩
theorem r_map {h : jh} {m : Nat} {s : ms} {T : ta} {hi : Bool} {TI : ta} {fl : Int32} {n : Nat} {tp : Nat → Int32} (R : RS s T hi TI fl n tp) (hT : TO T) (x a b c d : Int32) : rB h m (f_X13_map m x a b c d (pm h m s)) (dDo T.1 4 x a b c d).1 (tAct T (dDo T.1 4 x a b c d)) hi TI fl n tp := by
  unfold f_X13_map
  refine rs_in R hT (fun s1 R1 => ?_)
  have lb := cl_le b 100 (by decide)
  have lc := cl_le c 100 (by decide)
  have ld := cl_le d 100 (by decide)
  have no : ¬ (cl b 100 < 100 ∧ cl c 100 < 100 ∧ cl d 100 < 100) → rB h m (f_X13_map_b42 m x a b c d 0 (pm h m s1)) (dDo T.1 4 x a b c d).1 (tAct T (dDo T.1 4 x a b c d)) hi TI fl n tp := by
    intro hno
    obtain ⟨s', e1, e2⟩ := r_ref (h := h) (m := m) R1 1 (by decide)
    unfold f_X13_map_b42
    rw [if_pos rfl, pm_cV, show f_X13_refuse m 1 (pm h m s1) = _ from e1, bd_some]
    have ed : dDo T.1 4 x a b c d = (nm1, T.1) := by
      unfold dDo
      by_cases h1 : cl x 16 < 16 ∧ T.1 0 (cl x 16) = 1
      · rw [if_pos h1, if_neg (by decide), if_neg (by decide), if_neg (by decide), if_neg (by decide), if_pos rfl]
        unfold dMap
        rw [if_neg (by omega)]
      · rw [if_neg h1]
    rw [ed, tAct_no T _ rfl]
    exact ⟨s', rfl, e2⟩
  rw [r_isIn, show decide ((0 : Int32) ≤ b ∧ b ≤ 99) = decide (cl b 100 < 100) from in_cl b 99 100 rfl (by decide), bd_some]
  by_cases hb1 : cl b 100 < 100
  · rw [decide_eq_true hb1, if_neg (show ¬ bn true = 0 by decide), r_isIn, show decide ((0 : Int32) ≤ c ∧ c ≤ 99) = decide (cl c 100 < 100) from in_cl c 99 100 rfl (by decide), bd_some]
    by_cases hc1 : cl c 100 < 100
    · rw [decide_eq_true hc1, if_neg (show ¬ bn true = 0 by decide), r_isIn, show decide ((0 : Int32) ≤ d ∧ d ≤ 99) = decide (cl d 100 < 100) from in_cl d 99 100 rfl (by decide), bd_some]
      by_cases hd1 : cl d 100 < 100
      · rw [decide_eq_true hd1, if_neg (show ¬ bn true = 0 by decide)]
        obtain ⟨s', e1, e2⟩ := r_act (h := h) (m := m) R1 hT 4 x a b c d (by decide) (fun _ => ⟨hb1, hc1, hd1⟩) (fun e => absurd e (by decide))
        unfold f_X13_map_b42
        rw [if_neg (show ¬ (1 : Int32) = 0 by decide), pm_cV, show f_X13_act m 4 x a b c d (pm h m s1) = _ from e1, bd_some]
        exact ⟨s', rfl, e2⟩
      · rw [decide_eq_false hd1, if_pos (show bn false = 0 by decide)]; exact no (fun e => hd1 e.2.2)
    · rw [decide_eq_false hc1, if_pos (show bn false = 0 by decide)]; exact no (fun e => hc1 e.2.1)
  · rw [decide_eq_false hb1, if_pos (show bn false = 0 by decide)]; exact no (fun e => hb1 e.1)
/-! undo -/
def tUndo (T : ta) : ta := if T.2.1 = 0 then T else (T.2.2.1 (T.2.1 - 1), T.2.1 - 1, T.2.2.1, T.2.2.2.1, T.2.2.2.2)
def aUndo (T : ta) : Int32 := if T.2.1 = 0 then nm1 else nI (T.2.1 - 1)
theorem TO_undo {T : ta} (h : TO T) : TO (tUndo T) := by
  unfold tUndo
  by_cases h0 : T.2.1 = 0
  · rw [if_pos h0]; exact h
  · rw [if_neg h0]
    obtain ⟨h1, h2, h3, h4, h5⟩ := h
    exact ⟨h3 _ (by omega), by show T.2.1 - 1 ≤ 40; omega, fun i hi => h3 i (by have hi : i < T.2.1 - 1 := hi; omega), h4, h5⟩
theorem t_h26 {h : jh} {m : Nat} {s : ms} (k : Nat) (hk : k < 40) (e18 : s 18 0 = nI k) (K : Nat → jh → Option (Int32 × jh)) (L : Nat → Nat → Int32 → jh → Option (Int32 × jh)) (hL : ∀ f, L (f + 1) = f_X13_undo_h26 K (L f)) : ∀ c i f (r : Nat → Int32), i + c = 595 → c + 1 ≤ f → ∃ r', L f m (nI i) (pm h m (sw s 2 r)) = K m (pm h m (sw s 2 r')) ∧ (∀ j, i ≤ j → j < 595 → r' j = s 19 (595 * k + j)) ∧ ∀ j, j < i → r' j = r j := by
  intro c
  induction c with
  | zero =>
    intro i f r hi hf
    obtain ⟨f, rfl⟩ : ∃ g, f = g + 1 := ⟨f - 1, by omega⟩
    refine ⟨r, ?_, fun j h1 h2 => by omega, fun _ _ => rfl⟩
    rw [hL]
    unfold f_X13_undo_h26
    rw [if_pos (show (595 : Int32) ≤ nI i by rw [show (595 : Int32) = nI 595 from rfl, al_le (by omega) (by omega)]; omega)]
  | succ c ih =>
    intro i f r hi hf
    obtain ⟨f, rfl⟩ : ∃ g, f = g + 1 := ⟨f - 1, by omega⟩
    obtain ⟨r', e1, e3, e4⟩ := ih (i + 1) f (upd r i (s 19 (595 * k + i))) (by omega) (by omega)
    refine ⟨r', ?_, ?_, ?_⟩
    · rw [hL]
      unfold f_X13_undo_h26
      have f18 : sw s 2 r 18 0 = nI k := by rw [sw_ne _ _ _ _ (by decide)]; exact e18
      have f19 : sw s 2 r 19 (595 * k + i) = s 19 (595 * k + i) := by rw [sw_ne _ _ _ _ (by decide)]
      rw [if_neg (show ¬ (595 : Int32) ≤ nI i by rw [show (595 : Int32) = nI 595 from rfl, al_le (by omega) (by omega)]; omega), pm_gR2, pm_gR19, pm_gI18, f18, show (595 : Int32) * nI k + nI i = nI (595 * k + i) by rw [show (595 : Int32) = nI 595 from rfl, al_mul, al_add], rd19 _ _ _ _ _ (by omega), f19, wr2 _ _ _ _ _ _ (by omega), st2_sw, sw_sw, sw_eq, show nI i + 1 = nI (i + 1) from al_add i 1]
      exact e1
    · intro j h1 h2
      by_cases e : j = i
      · rw [e4 _ (by omega), e]; exact if_pos rfl
      · exact e3 j (by omega) h2
    · intro j h1
      rw [e4 j (by omega)]; exact if_neg (by omega)
theorem r_undo {h : jh} {m : Nat} {s : ms} {T : ta} {hi : Bool} {TI : ta} {fl : Int32} {n : Nat} {tp : Nat → Int32} (R : RS s T hi TI fl n tp) (hT : TO T) : rB h m (f_X13_undo m (pm h m s)) (aUndo T) (tUndo T) hi TI fl n tp := by
  obtain ⟨f0, hf0⟩ := jfu_s
  have hk := hT.2.1
  unfold f_X13_undo
  refine rs_in R hT (fun s1 R1 => ?_)
  have e18 := R1.ac
  unfold aUndo tUndo
  rw [pm_gI18, e18]
  by_cases h0 : T.2.1 = 0
  · rw [if_neg (show ¬ ¬ nI T.2.1 = 0 from not_not_intro (by rw [h0]; rfl)), if_pos h0, if_pos h0]
    exact rb_ok R1 _
  · rw [if_pos (show ¬ nI T.2.1 = 0 by rw [show (0 : Int32) = nI 0 from rfl, al_eq (by omega) (by omega)]; exact h0), if_neg h0, if_neg h0, pm_gI18, e18, pm_pV18, st2_sw, show nI T.2.1 - (1 : Int32) = nI (T.2.1 - 1) from al_sub (b := 1) (by omega)]
    generalize hs2 : sw s1 18 (upd (s1 18) 0 (nI (T.2.1 - 1))) = s2
    have t18 : s2 18 0 = nI (T.2.1 - 1) := by rw [← hs2, sw_eq]; exact if_pos rfl
    have tk : ∀ k, k ≠ 18 → s2 k = s1 k := fun k hk => by rw [← hs2]; exact sw_ne _ _ _ _ hk
    obtain ⟨r2, q1, q2, -⟩ := t_h26 (h := h) (m := m) (s := s2) (T.2.1 - 1) (by omega) t18 (fun y13 h12 => gI h12 y13 11 18 fun v14 => some (v14, h12)) (jlp2 (f_X13_undo_h26 (fun y13 h12 => gI h12 y13 11 18 fun v14 => some (v14, h12)))) (fun _ => rfl) 595 0 jfu (s2 2) (by omega) (by omega)
    rw [sw_id] at q1
    refine ⟨sw s2 2 r2, ?_, ?_⟩
    · refine Eq.trans q1 ?_
      show (gI (pm h m (sw s2 2 r2)) m 11 18 fun v14 => _) = _
      rw [pm_gI18, sw_ne _ _ _ _ (by decide), t18]
    · have e : ∀ k, k ≠ 2 → k ≠ 18 → sw s2 2 r2 k = s1 k := fun k g1 g2 => (sw_ne _ _ _ _ g1).trans (tk k g2)
      refine ⟨?_, ?_, ?_, ?_, ?_, ?_, ?_, ?_, ?_, ?_, ?_⟩
      · rw [sw_eq]
        refine RowV_cg (R1.pa (T.2.1 - 1) (by omega)) (hT.2.2.1 (T.2.1 - 1) (by omega)).1.bd (fun j hj => ?_)
        rw [q2 j (Nat.zero_le _) hj, tk 19 (by decide)]
      · rw [sw_ne _ _ _ _ (by decide)]; exact t18
      · rw [e 19 (by decide) (by decide)]
        intro i hi1
        exact R1.pa i (by have hi1 : i < T.2.1 - 1 := hi1; omega)
      · rw [e 22 (by decide) (by decide)]; exact R1.nn
      · rw [e 23 (by decide) (by decide), e 24 (by decide) (by decide), e 25 (by decide) (by decide)]; exact R1.nt
      · rw [e 3 (by decide) (by decide)]; exact R1.st
      · rw [e 27 (by decide) (by decide)]; exact R1.ih
      · intro h; exact RImg_k (R1.im h) (fun k hk => e k (by omega) (by omega))
      · rw [e 14 (by decide) (by decide)]; exact R1.fa
      · rw [e 5 (by decide) (by decide)]; exact R1.tn
      · rw [e 4 (by decide) (by decide)]; exact R1.tt
/-! notes -/
def tFgt (T : ta) : ta := (T.1, T.2.1, T.2.2.1, 0, T.2.2.2.2)
theorem TO_fgt {T : ta} (h : TO T) : TO (tFgt T) := ⟨h.1, h.2.1, h.2.2.1, Nat.zero_le _, fun j hj => absurd hj (Nat.not_lt_zero j)⟩
theorem r_forget {h : jh} {m : Nat} {s : ms} {T : ta} {hi : Bool} {TI : ta} {fl : Int32} {n : Nat} {tp : Nat → Int32} (R : RS s T hi TI fl n tp) (hT : TO T) : rB h m (f_X13_forget m (pm h m s)) () (tFgt T) hi TI fl n tp := by
  unfold f_X13_forget
  refine rs_in R hT (fun s1 R1 => ?_)
  rw [pm_pV22, st2_sw]
  have e : ∀ k, k ≠ 22 → sw s1 22 (upd (s1 22) 0 0) k = s1 k := fun k hk => sw_ne _ _ _ _ hk
  refine ⟨_, rfl, ?_, ?_, ?_, ?_, fun j hj => absurd hj (Nat.not_lt_zero j), ?_, ?_, ?_, ?_, ?_, ?_⟩
  · rw [e 2 (by decide)]; exact R1.row
  · rw [e 18 (by decide)]; exact R1.ac
  · rw [e 19 (by decide)]; exact R1.pa
  · rw [sw_eq]; exact if_pos rfl
  · rw [e 3 (by decide)]; exact R1.st
  · rw [e 27 (by decide)]; exact R1.ih
  · intro h; exact RImg_k (R1.im h) (fun k hk => e k (by omega))
  · rw [e 14 (by decide)]; exact R1.fa
  · rw [e 5 (by decide)]; exact R1.tn
  · rw [e 4 (by decide)]; exact R1.tt
def cnN (T : ta) (x y : Int32) : Bool := decide (T.2.2.2.1 ≠ 8) && (isS T.1 10 x && decide (1 ≤ cl y 21 ∧ cl y 21 < 21))
def ntN (N : ms) (c : Nat) (x y : Int32) (b : Bool) : ms := sw (sw (sw N 0 (upd (N 0) c x)) 1 (upd (N 1) c y)) 2 (upd (N 2) c (bn b))
def tNote (T : ta) (x y : Int32) (b : Bool) : ta := if cnN T x y = true then (T.1, T.2.1, T.2.2.1, T.2.2.2.1 + 1, ntN T.2.2.2.2 T.2.2.2.1 x y b) else tRef T 2
def aNote (T : ta) (x y : Int32) : Int32 := if cnN T x y = true then nI (T.2.2.2.1 + 1) else nm1
theorem ntN_0 (N : ms) (c : Nat) (x y : Int32) (b : Bool) : ntN N c x y b 0 = upd (N 0) c x := by unfold ntN; rw [sw_ne _ _ _ _ (by decide), sw_ne _ _ _ _ (by decide), sw_eq]
theorem ntN_1 (N : ms) (c : Nat) (x y : Int32) (b : Bool) : ntN N c x y b 1 = upd (N 1) c y := by unfold ntN; rw [sw_ne _ _ _ _ (by decide), sw_eq]
theorem ntN_2 (N : ms) (c : Nat) (x y : Int32) (b : Bool) : ntN N c x y b 2 = upd (N 2) c (bn b) := by unfold ntN; rw [sw_eq]
theorem ntN_3 (N : ms) (c : Nat) (x y : Int32) (b : Bool) : ntN N c x y b 3 = N 3 := by unfold ntN; rw [sw_ne _ _ _ _ (by decide), sw_ne _ _ _ _ (by decide), sw_ne _ _ _ _ (by decide)]
theorem TO_ref {T : ta} (h : TO T) (i : Nat) : TO (tRef T i) := by
  obtain ⟨h1, h2, h3, h4, h5⟩ := h
  refine ⟨h1, h2, h3, h4, fun j hj => ?_⟩
  show ∃ a b e : Nat, rfs T.2.2.2.2 i 0 j = nI a ∧ a < 8 ∧ rfs T.2.2.2.2 i 1 j = nI b ∧ 1 ≤ b ∧ b ≤ 20 ∧ rfs T.2.2.2.2 i 2 j = nI e ∧ e ≤ 1
  rw [rfs_ne _ _ _ (by omega), rfs_ne _ _ _ (by omega), rfs_ne _ _ _ (by omega)]
  exact h5 j hj
theorem cnN_t {T : ta} (h : TO T) {x y : Int32} (hc : cnN T x y = true) : T.2.2.2.1 < 8 ∧ ∃ a b : Nat, x = nI a ∧ a < T.1 10 0 ∧ a < 8 ∧ y = nI b ∧ 1 ≤ b ∧ b ≤ 20 := by
  have hc0 := h.1.1.c0
  have h4 := h.2.2.2.1
  unfold cnN at hc
  rw [Bool.and_eq_true, Bool.and_eq_true] at hc
  obtain ⟨g1, g2, g3⟩ := hc
  have g1 := of_decide_eq_true g1
  have g3 := of_decide_eq_true g3
  obtain ⟨a, k1, k2, -⟩ := isS_t hc0.2 g2
  exact ⟨by omega, a, cl y 21, k2, k1, by omega, cl_eq (by decide) g3.2, g3.1, by omega⟩
theorem TO_note {T : ta} (h : TO T) (x y : Int32) (b : Bool) : TO (tNote T x y b) := by
  unfold tNote
  by_cases hc : cnN T x y = true
  · rw [if_pos hc]
    obtain ⟨g1, a, e, k1, -, k3, k4, k5, k6⟩ := cnN_t h hc
    obtain ⟨h1, h2, h3, h4, h5⟩ := h
    refine ⟨h1, h2, h3, by show T.2.2.2.1 + 1 ≤ 8; omega, fun j hj => ?_⟩
    have hj : j < T.2.2.2.1 + 1 := hj
    show ∃ a' b' d' : Nat, ntN T.2.2.2.2 T.2.2.2.1 x y b 0 j = nI a' ∧ a' < 8 ∧ ntN T.2.2.2.2 T.2.2.2.1 x y b 1 j = nI b' ∧ 1 ≤ b' ∧ b' ≤ 20 ∧ ntN T.2.2.2.2 T.2.2.2.1 x y b 2 j = nI d' ∧ d' ≤ 1
    rw [ntN_0, ntN_1, ntN_2]
    unfold upd
    by_cases ej : j = T.2.2.2.1
    · rw [if_pos ej, if_pos ej, if_pos ej]
      cases b
      · exact ⟨a, e, 0, k1, k3, k4, k5, k6, rfl, by omega⟩
      · exact ⟨a, e, 1, k1, k3, k4, k5, k6, rfl, by omega⟩
    · rw [if_neg ej, if_neg ej, if_neg ej]; exact h5 j (by omega)
  · rw [if_neg hc]; exact TO_ref h 2
theorem in_cl1 (y : Int32) : decide (nI 1 ≤ y ∧ y ≤ nI 20) = decide (1 ≤ cl y 21 ∧ cl y 21 < 21) := by
  apply decide_eq_decide.mpr
  rcases i_cases y 21 (by decide) with ⟨n, hn, rfl⟩ | ho
  · rw [cl_in hn (by decide), al_le (by omega) (by omega), al_le (by omega) (by omega)]
    omega
  · rw [cl_out ho]
    refine ⟨fun e => ?_, fun e => by omega⟩
    rcases ho with h3 | h3
    · exact absurd (Int32.lt_of_le_of_lt e.1 h3) (by decide)
    · exact absurd (Int32.le_trans h3 e.2) (by decide)
theorem r_note {h : jh} {m : Nat} {s : ms} {T : ta} {hi : Bool} {TI : ta} {fl : Int32} {n : Nat} {tp : Nat → Int32} (R : RS s T hi TI fl n tp) (hT : TO T) (x y : Int32) (b : Bool) : rB h m (f_X13_note m x y (bn b) (pm h m s)) (aNote T x y) (tNote T x y b) hi TI fl n tp := by
  have W := hT.1.1
  have hc0 := W.c0
  unfold f_X13_note
  refine rs_in R hT (fun s1 R1 => ?_)
  have e22 := R1.nn
  have h8 := hT.2.2.2.1
  have no : ¬ cnN T x y = true → rB h m (f_X13_note_b33 m (pm h m s1)) (aNote T x y) (tNote T x y b) hi TI fl n tp := by
    intro hno
    obtain ⟨s', k1, k2⟩ := r_ref (h := h) (m := m) R1 2 (by decide)
    unfold f_X13_note_b33 aNote tNote
    rw [if_neg hno, if_neg hno, pm_cV, show f_X13_refuse m 2 (pm h m s1) = _ from k1, bd_some]
    exact ⟨s', rfl, k2⟩
  rw [pm_gI22, e22]
  by_cases c8 : T.2.2.2.1 = 8
  · rw [if_pos (show nI T.2.2.2.1 = 8 by rw [c8]; rfl)]
    exact no (by unfold cnN; simp [c8])
  · rw [if_neg (show ¬ nI T.2.2.2.1 = 8 by rw [show (8 : Int32) = nI 8 from rfl, al_eq (by omega) (by omega)]; exact c8), pm_cV, show f_X13_isSpace m 0 x (pm h m s1) = _ from t_isS0 R1.row W x, bd_some]
    by_cases hs : isS T.1 10 x = true
    · rw [hs, if_neg (show ¬ bn true = 0 by decide), r_isIn, show decide ((1 : Int32) ≤ y ∧ y ≤ 20) = _ from in_cl1 y, bd_some]
      by_cases hy : 1 ≤ cl y 21 ∧ cl y 21 < 21
      · have hc : cnN T x y = true := by unfold cnN; simp [c8, hs, hy]
        rw [decide_eq_true hy, if_pos (show ¬ bn true = 0 by decide), pm_gR23, pm_gI22, e22, wr23 _ _ _ _ _ _ (by omega), st2_sw]
        generalize hs2 : sw s1 23 (upd (s1 23) T.2.2.2.1 x) = s2
        have t2 : ∀ k, k ≠ 23 → s2 k = s1 k := fun k hk => by rw [← hs2]; exact sw_ne _ _ _ _ hk
        have t23 : s2 23 = upd (s1 23) T.2.2.2.1 x := by rw [← hs2, sw_eq]
        have f22 : s2 22 0 = nI T.2.2.2.1 := by rw [t2 22 (by decide)]; exact e22
        rw [pm_gR24, pm_gI22, f22, wr24 _ _ _ _ _ _ (by omega), st2_sw]
        generalize hs3 : sw s2 24 (upd (s2 24) T.2.2.2.1 y) = s3
        have t3 : ∀ k, k ≠ 24 → s3 k = s2 k := fun k hk => by rw [← hs3]; exact sw_ne _ _ _ _ hk
        have t24 : s3 24 = upd (s2 24) T.2.2.2.1 y := by rw [← hs3, sw_eq]
        have g22 : s3 22 0 = nI T.2.2.2.1 := by rw [t3 22 (by decide)]; exact f22
        have fin : rB h m (f_X13_note_b76 m (bn b) (nI T.2.2.2.1) (m + 12) (pm h m s3)) (aNote T x y) (tNote T x y b) hi TI fl n tp := by
          unfold f_X13_note_b76 aNote tNote
          rw [if_pos hc, if_pos hc, wr25 _ _ _ _ _ _ (by omega), st2_sw]
          generalize hs4 : sw s3 25 (upd (s3 25) T.2.2.2.1 (bn b)) = s4
          have t4 : ∀ k, k ≠ 25 → s4 k = s3 k := fun k hk => by rw [← hs4]; exact sw_ne _ _ _ _ hk
          have t25 : s4 25 = upd (s3 25) T.2.2.2.1 (bn b) := by rw [← hs4, sw_eq]
          have h22 : s4 22 0 = nI T.2.2.2.1 := by rw [t4 22 (by decide)]; exact g22
          rw [pm_gI22, h22, pm_pV22, st2_sw, show nI T.2.2.2.1 + (1 : Int32) = nI (T.2.2.2.1 + 1) from al_add _ 1]
          have q22 : sw s4 22 (upd (s4 22) 0 (nI (T.2.2.2.1 + 1))) 22 0 = nI (T.2.2.2.1 + 1) := by rw [sw_eq]; exact if_pos rfl
          rw [pm_gI22, q22]
          have e : ∀ k, k ≠ 22 → k ≠ 23 → k ≠ 24 → k ≠ 25 → sw s4 22 (upd (s4 22) 0 (nI (T.2.2.2.1 + 1))) k = s1 k := fun k g1 g2 g3 g4 => by rw [sw_ne _ _ _ _ g1, t4 k g4, t3 k g3, t2 k g2]
          refine ⟨_, rfl, ?_, ?_, ?_, q22, ?_, ?_, ?_, ?_, ?_, ?_, ?_⟩
          · rw [e 2 (by decide) (by decide) (by decide) (by decide)]; exact R1.row
          · rw [e 18 (by decide) (by decide) (by decide) (by decide)]; exact R1.ac
          · rw [e 19 (by decide) (by decide) (by decide) (by decide)]; exact R1.pa
          · intro j hj
            have hj : j < T.2.2.2.1 + 1 := hj
            show _ = ntN T.2.2.2.2 T.2.2.2.1 x y b 0 j ∧ _ = ntN T.2.2.2.2 T.2.2.2.1 x y b 1 j ∧ _ = ntN T.2.2.2.2 T.2.2.2.1 x y b 2 j
            rw [ntN_0, ntN_1, ntN_2, sw_ne _ _ _ _ (by decide), sw_ne _ _ _ _ (by decide), sw_ne _ _ _ _ (by decide), t4 23 (by decide), t3 23 (by decide), t23, t4 24 (by decide), t24, t2 24 (by decide), t25, t3 25 (by decide), t2 25 (by decide)]
            unfold upd
            by_cases ej : j = T.2.2.2.1
            · simp only [if_pos ej]; exact ⟨trivial, trivial, trivial⟩
            · simp only [if_neg ej]; exact R1.nt j (by omega)
          · rw [e 3 (by decide) (by decide) (by decide) (by decide)]
            show ∀ j, j < 3 → s1 3 j = ntN T.2.2.2.2 T.2.2.2.1 x y b 3 j
            rw [ntN_3]; exact R1.st
          · rw [e 27 (by decide) (by decide) (by decide) (by decide)]; exact R1.ih
          · intro h; exact RImg_k (R1.im h) (fun k hk => e k (by omega) (by omega) (by omega) (by omega))
          · rw [e 14 (by decide) (by decide) (by decide) (by decide)]; exact R1.fa
          · rw [e 5 (by decide) (by decide) (by decide) (by decide)]; exact R1.tn
          · rw [e 4 (by decide) (by decide) (by decide) (by decide)]; exact R1.tt
        rw [pm_gR25, pm_gI22, g22]
        cases b
        · rw [if_pos (show bn false = 0 by decide)]; exact fin
        · rw [if_neg (show ¬ bn true = 0 by decide)]; exact fin
      · rw [decide_eq_false hy, if_neg (show ¬ ¬ bn false = 0 by decide)]
        exact no (by unfold cnN; simp [hy])
    · have hs : isS T.1 10 x = false := by simpa using hs
      rw [hs, if_pos (show bn false = 0 by decide)]
      exact no (by unfold cnN; simp [hs])
