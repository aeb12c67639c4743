/-! the law: one call -/
def Hm (z : Nat) (H : jh) (s : ms) : Prop := ∀ d, d < 19 → H.2.2 (z + 100 + d) = mc (z + 100) s d
theorem Hm.eq {z : Nat} {H : jh} {s : ms} (h : Hm z H s) : pm H (z + 100) s = H := by
  refine Prod.ext rfl (Prod.ext rfl (funext fun q => ?_))
  show (if z + 100 ≤ q ∧ q < z + 100 + 19 then mc (z + 100) s (q - (z + 100)) else H.2.2 q) = _
  by_cases e : z + 100 ≤ q ∧ q < z + 100 + 19
  · rw [if_pos e, ← h (q - (z + 100)) (by omega), show z + 100 + (q - (z + 100)) = q by omega]
  · rw [if_neg e]
theorem Hm.kp {z : Nat} {H H' : jh} {s : ms} (h : Hm z H s) (k : ∀ q, z + 100 ≤ q → q < z + 119 → H'.2.2 q = H.2.2 q) : Hm z H' s := fun d hd => by rw [k _ (by omega) (by omega)]; exact h d hd
def IV (z : Nat) (H : jh) (b1 b2 : Nat) : Prop := ∃ Q Q2 I T hi TI fl n tp s fo, CI z H b1 b2 Q Q2 I T hi TI fl n tp ∧ Hm z H s ∧ H.2.2 (z + 119) = jL 1 fo ∧ RS s T hi TI fl n tp ∧ TO T ∧ (hi = true → TO TI) ∧ BY n tp
/-- what is written beside the class's own cells -/
theorem CI.out {z : Nat} {H : jh} {b1 b2 : Nat} {Q Q2 : Nat → Option Nat} {I : Option Nat} {T TI : ta} {hi : Bool} {fl : Int32} {n : Nat} {tp : Nat → Int32} (C : CI z H b1 b2 Q Q2 I T hi TI fl n tp) {H' : jh} (F : Fr H H' (z + 100) 20) : CI z H' b1 b2 Q Q2 I T hi TI fl n tp := by
  have hz := C.hz
  have o : ∀ q, q < z + 100 → H'.2.2 q = H.2.2 q := fun q hq => F.2.2 q (by omega)
  refine C.mk F.z (fun q hq => by omega) ?_ (C.scz F.z (fun q hq => by omega)) (C.sp.fz F.z (by omega) (fun q g1 g2 => by omega)) (C.rd.fz F.z hz (fun q g1 g2 => by omega)) ?_ ?_ id ?_ ?_
  · obtain ⟨sd, e⟩ := C.ob
    exact ⟨sd, by rw [o _ (by omega)]; exact e⟩
  · obtain ⟨tape, ops, ln, tk, ts, te, h1, h2, h3, h4⟩ := C.re
    exact ⟨tape, ops, ln, tk, ts, te, by rw [o _ (by omega)]; exact h1, by rw [o _ (by omega)]; exact h2, by rw [o _ (by omega)]; exact h3, h4⟩
  · obtain ⟨f, e⟩ := C.dr
    exact ⟨f, by rw [o _ (by omega)]; exact e⟩
  · rw [F.1]; exact C.p1
  · rw [F.2.1]; exact C.p2
theorem pm_fr (H : jh) (z : Nat) (s : ms) : Fr H (pm H (z + 100) s) (z + 100) 20 := ⟨rfl, rfl, fun q hq => if_neg (by omega)⟩
theorem pm_Hm (H : jh) (z : Nat) (s : ms) : Hm z (pm H (z + 100) s) s := fun d hd => pm_at H (z + 100) s d hd
theorem IV_mk {z : Nat} {H : jh} {b1 b2 : Nat} {Q Q2 : Nat → Option Nat} {I : Option Nat} {T TI : ta} {hi : Bool} {fl : Int32} {n : Nat} {tp : Nat → Int32} (C : CI z H b1 b2 Q Q2 I T hi TI fl n tp) {fo : Nat → Int64} (ho : H.2.2 (z + 119) = jL 1 fo) {s : ms} (R : RS s T hi TI fl n tp) (tT : TO T) (tI : hi = true → TO TI) (b : BY n tp) : IV z (pm H (z + 100) s) b1 b2 :=
  ⟨Q, Q2, I, T, hi, TI, fl, n, tp, s, fo, C.out (pm_fr H z s), pm_Hm H z s, by rw [(show (pm H (z + 100) s).2.2 (z + 119) = H.2.2 (z + 119) from if_neg (by omega))]; exact ho, R, tT, tI, b⟩
/-- calls that throw nothing -/
theorem nt {α : Type} [DecidableEq α] {z : Nat} {H : jh} {b1 b2 : Nat} {Q Q2 : Nat → Option Nat} {I : Option Nat} {T TI : ta} {hi : Bool} {fl : Int32} {n : Nat} {tp : Nat → Int32} (C : CI z H b1 b2 Q Q2 I T hi TI fl n tp) {H' : jh} {Q' Q2' : Nat → Option Nat} {I' : Option Nat} {T' TI' : ta} {hi' : Bool} {fl' : Int32} {n' : Nat} {tp' : Nat → Int32} {s : ms} {fo : Nat → Int64} {oc : Option (α × jh)} {x : α} {fr : jh → Option (α × jh)} (hm : Hm z H s) (ho : H.2.2 (z + 119) = jL 1 fo) (e : oc = some (x, H')) (C' : CI z H' b1 b2 Q' Q2' I' T' hi' TI' fl' n' tp') (kp : ∀ q, z + 100 ≤ q → q < z + 120 → H'.2.2 q = H.2.2 q) (r : rB H' (z + 100) (fr (pm H' (z + 100) s)) x T' hi' TI' fl' n' tp') (tT : TO T') (tI : hi' = true → TO TI') (b : BY n' tp') (R : jh → Option (Int32 × jh)) : ∃ H'', (cV H z 10 oc fun v h1 => cV h1 (z + 100) 11 (fr h1) fun v' h2 => if v = v' then R h2 else some (0, h2)) = R H'' ∧ IV z H'' b1 b2 := by
  have hm' : Hm z H' s := hm.kp (fun q h1 h2 => kp q h1 (by omega))
  obtain ⟨s', e2, R'⟩ := r
  rw [hm'.eq] at e2
  refine ⟨pm H' (z + 100) s', ?_, IV_mk C' (by rw [kp _ (by omega) (by omega)]; exact ho) R' tT tI b⟩
  rw [C.cv, e, bd_some, cV_of (show H'.2.2 (z + 100) = jO 11 (mo (z + 100) s) from hm' 0 (by decide)), e2, bd_some, if_pos rfl]
theorem nv {α : Type} {z : Nat} {H : jh} {b1 b2 : Nat} {Q Q2 : Nat → Option Nat} {I : Option Nat} {T TI : ta} {hi : Bool} {fl : Int32} {n : Nat} {tp : Nat → Int32} (C : CI z H b1 b2 Q Q2 I T hi TI fl n tp) {H' : jh} {Q' Q2' : Nat → Option Nat} {I' : Option Nat} {T' TI' : ta} {hi' : Bool} {fl' : Int32} {n' : Nat} {tp' : Nat → Int32} {s : ms} {fo : Nat → Int64} {oc : Option (α × jh)} {x : α} {fr : jh → Option (α × jh)} (hm : Hm z H s) (ho : H.2.2 (z + 119) = jL 1 fo) (e : oc = some (x, H')) (C' : CI z H' b1 b2 Q' Q2' I' T' hi' TI' fl' n' tp') (kp : ∀ q, z + 100 ≤ q → q < z + 120 → H'.2.2 q = H.2.2 q) (r : rB H' (z + 100) (fr (pm H' (z + 100) s)) x T' hi' TI' fl' n' tp') (tT : TO T') (tI : hi' = true → TO TI') (b : BY n' tp') (R : jh → Option (Int32 × jh)) : ∃ H'', (cV H z 10 oc fun _ h1 => cV h1 (z + 100) 11 (fr h1) fun _ h2 => R h2) = R H'' ∧ IV z H'' b1 b2 := by
  have hm' : Hm z H' s := hm.kp (fun q h1 h2 => kp q h1 (by omega))
  obtain ⟨s', e2, R'⟩ := r
  rw [hm'.eq] at e2
  refine ⟨pm H' (z + 100) s', ?_, IV_mk C' (by rw [kp _ (by omega) (by omega)]; exact ho) R' tT tI b⟩
  rw [C.cv, e, bd_some, cV_of (show H'.2.2 (z + 100) = jO 11 (mo (z + 100) s) from hm' 0 (by decide)), e2, bd_some]
/-- questions: what the law's own method gives -/
theorem sL_of {β : Type} {H : jh} {a : Nat} {fo : Nat → Int64} (e : H.2.2 a = jL 1 fo) (v : Int64) (K : jh → Option β) : sL H a 0 v K = K (jv_wr H a (jL 1 (vp_updL fo 0 v))) := by
  unfold sL
  rw [e]
  rfl
theorem aL_of {β : Type} {H : jh} {a : Nat} {fo : Nat → Int64} (e : H.2.2 a = jL 1 fo) (K : Int64 → Option β) : aL H a 0 K = K (fo 0) := by
  unfold aL
  rw [e]
  rfl
theorem CI.cvc {z : Nat} {H : jh} {b1 b2 : Nat} {Q Q2 : Nat → Option Nat} {I : Option Nat} {T TI : ta} {hi : Bool} {fl : Int32} {n : Nat} {tp : Nat → Int32} (C : CI z H b1 b2 Q Q2 I T hi TI fl n tp) {γ β : Type} (o : Option ((γ ⊕ String) × jh)) (K : γ → jh → Option β) (KX : String → jh → Option β) : cVC H z 10 o K KX = (match o with | some (.inl a, h1) => K a h1 | some (.inr E, h1) => KX E h1 | none => none) := by
  obtain ⟨sd, e⟩ := C.ob
  unfold cVC
  have : isO H z 10 = true := by unfold isO; rw [e]; rfl
  rw [if_pos this]
  rcases o with _ | ⟨_ | _, _⟩ <;> rfl
theorem lw_q {z : Nat} {H : jh} {b1 b2 : Nat} {Q Q2 : Nat → Option Nat} {I : Option Nat} {T TI : ta} {hi : Bool} {fl : Int32} {n : Nat} {tp : Nat → Int32} (C : CI z H b1 b2 Q Q2 I T hi TI fl n tp) {H1 : jh} {Q' Q2' : Nat → Option Nat} {I' : Option Nat} {T' TI' : ta} {hi' : Bool} {fl' : Int32} {n' : Nat} {tp' : Nat → Int32} {fo : Nat → Int64} (C1 : CI z H1 b1 b2 Q' Q2' I' T' hi' TI' fl' n' tp') (ho : H1.2.2 (z + 119) = jL 1 fo) {oc : Option ((Int32 ⊕ String) × jh)} {a : Nat × Int32} {E : String} {KX : String → jh → Option (Int32 × jh)} (e : oc = if a.1 = 0 then some (.inl a.2, H1) else some (.inr E, jt H1)) (hK : a.1 ≠ 0 → ∀ h, KX E h = some (nI a.1, h)) : ∃ H2 fo', cVC H z 10 oc (fun v1 h2 => sL h2 (z + 119) 0 v1.toInt64 fun h3 => some (0, h3)) KX = some (nI a.1, H2) ∧ CI z H2 (b1 + 1) (b2 + 6) Q' Q2' I' T' hi' TI' fl' n' tp' ∧ (∀ q, z + 100 ≤ q → q < z + 119 → H2.2.2 q = H1.2.2 q) ∧ H2.2.2 (z + 119) = jL 1 fo' ∧ (a.1 = 0 → fo' 0 = a.2.toInt64) := by
  rw [C.cvc, e]
  by_cases h0 : a.1 = 0
  · rw [if_pos h0, h0]
    refine ⟨_, _, sL_of ho _ _, (C1.out ((Fr_wr H1 (z + 119) _).wide (by omega) (by omega))).le (by omega) (by omega), fun q g1 g2 => wr_ne _ _ _ _ (by omega), wr_at _ _ _, fun _ => rfl⟩
  · rw [if_neg h0]
    exact ⟨jt H1, fo, hK h0 _, C1.thr, fun _ _ _ => rfl, ho, fun g => absurd g h0⟩
theorem cA_n (H : jh) (a : Nat × Int32) (h : a.1 ≤ 1) : cA H a = if a.1 = 0 then some (.inl a.2, H) else some (.inr "java/util/NoSuchElementException", jt H) := by
  unfold cA
  by_cases h0 : a.1 = 0
  · rw [if_pos h0, if_pos h0]
  · rw [if_neg h0, if_neg h0, if_pos (by omega)]
theorem cA_m (H : jh) (a : Nat × Int32) : cA H a = if a.1 = 0 then some (.inl a.2, H) else some (.inr (if a.1 = 1 then "java/util/NoSuchElementException" else "java/lang/IllegalArgumentException"), jt H) := by
  unfold cA
  by_cases h0 : a.1 = 0
  · rw [if_pos h0, if_pos h0]
  · rw [if_neg h0, if_neg h0]
    by_cases h1 : a.1 = 1
    · rw [if_pos h1, if_pos h1]
    · rw [if_neg h1, if_neg h1]
theorem lc_same (x : Int64) : lg_cmp x x = 0 := by
  unfold lg_cmp
  simp
theorem th {z : Nat} {H : jh} {b1 b2 : Nat} {Q Q2 : Nat → Option Nat} {I : Option Nat} {T TI : ta} {hi : Bool} {fl : Int32} {n : Nat} {tp : Nat → Int32} (C : CI z H b1 b2 Q Q2 I T hi TI fl n tp) {s : ms} {fo : Nat → Int64} (hm : Hm z H s) (ho : H.2.2 (z + 119) = jL 1 fo) {c : Nat} {x : Int32} {fr : jh → Option (Int32 × jh)} (hf : c = 0 → fo 0 = x.toInt64) (hc : c ≤ 2) (hr : ∃ s', fr (pm H (z + 100) s) = some (x, pm H (z + 100) s') ∧ s' 1 0 = nI c ∧ RS s' T hi TI fl n tp) (tT : TO T) (tI : hi = true → TO TI) (b : BY n tp) (R : jh → Option (Int32 × jh)) : ∃ H'', (cV H (z + 100) 11 (fr H) fun v370 h371 => cV h371 (z + 100) 11 (f_X13_thrown (z + 100) h371) fun v372 h373 => if v372 = nI c then (if ¬ nI c = 0 then R h373 else aL h373 (z + 119) 0 fun v376 => if lg_cmp v376 v370.toInt64 = 0 then R h373 else some (0, h373)) else some (0, h373)) = R H'' ∧ IV z H'' b1 b2 := by
  obtain ⟨s', e2, e3, R'⟩ := hr
  rw [hm.eq] at e2
  refine ⟨pm H (z + 100) s', ?_, IV_mk C ho R' tT tI b⟩
  rw [cV_of (show H.2.2 (z + 100) = jO 11 (mo (z + 100) s) from hm 0 (by decide)), e2, bd_some, pm_cV]
  unfold f_X13_thrown
  rw [pm_gI1, bd_some, e3, if_pos rfl]
  by_cases h0 : c = 0
  · subst h0
    rw [if_neg (not_not_intro (show nI 0 = 0 from rfl)), aL_of (show (pm H (z + 100) s').2.2 (z + 119) = jL 1 fo by rw [(show (pm H (z + 100) s').2.2 (z + 119) = H.2.2 (z + 119) from if_neg (by omega))]; exact ho), hf rfl, lc_same, if_pos rfl]
  · rw [if_pos (show ¬ nI c = 0 from fun g => h0 (by rw [show (0 : Int32) = nI 0 from rfl, al_eq (by omega) (by omega)] at g; exact g))]
/-! no question but three has a third way -/
theorem le_ite {P : Prop} [Decidable P] {a b : Nat × Int32} (h1 : a.1 ≤ 1) (h2 : b.1 ≤ 1) : (if P then a else b).1 ≤ 1 := by
  split
  · exact h1
  · exact h2
theorem le_count (T : ta) (n w : Nat) : (qCount T n w).1 ≤ 1 := by
  unfold qCount
  repeat' (first | exact Nat.le_refl _ | refine le_ite (Nat.zero_le _) ?_)
theorem le_pr (v : vw) (p w : Nat) : (qPr v p w).1 ≤ 1 := by
  unfold qPr
  repeat' split
  all_goals (first | exact Nat.zero_le _ | exact Nat.le_refl _)
theorem le_process (v : vw) (x a : Int32) : (qProcess v x a).1 ≤ 1 := by
  unfold qProcess
  split
  · exact le_pr _ _ _
  · exact Nat.le_refl _
theorem le_sp (v : vw) (k s w : Nat) : (qSp v k s w).1 ≤ 1 := by
  unfold qSp
  repeat' split
  all_goals (first | exact Nat.zero_le _ | exact Nat.le_refl _)
theorem le_space (v : vw) (k x a : Int32) : (qSpace v k x a).1 ≤ 1 := by
  unfold qSpace
  repeat' split
  all_goals (first | exact le_sp _ _ _ _ | exact Nat.le_refl _)
theorem le_number (v : vw) (x y : Int32) : (qNumber v x y).1 ≤ 1 := by
  unfold qNumber
  repeat' split
  all_goals (first | exact Nat.zero_le _ | exact Nat.le_refl _)
theorem le_lst (v : vw) (s : Nat) (i : Int32) : ∀ k a c, (lst v s i k a c).1 ≤ 1 := by
  intro k
  induction k with
  | zero => intro a c; unfold lst; exact le_ite (Nat.zero_le _) (Nat.le_refl _)
  | succ k ih =>
    intro a c
    unfold lst
    repeat' split
    all_goals (first | exact Nat.zero_le _ | exact Nat.le_refl _ | exact ih _ _)
theorem le_listed (v : vw) (x y : Int32) : (qListed v x y).1 ≤ 1 := by
  unfold qListed
  split
  · exact le_lst _ _ _ _ _ _
  · exact Nat.le_refl _
theorem le_range (v : vw) (x i a : Int32) : (qRange v x i a).1 ≤ 1 := by
  unfold qRange
  repeat' split
  all_goals (first | exact Nat.zero_le _ | exact Nat.le_refl _)
theorem le_mounted (v : vw) (x i : Int32) : (qMounted v x i).1 ≤ 1 := by
  unfold qMounted
  repeat' split
  all_goals (first | exact Nat.zero_le _ | exact Nat.le_refl _)
theorem le_my (v : vw) (p q w : Nat) : (qMy v p q w).1 ≤ 1 := by
  unfold qMy
  repeat' split
  all_goals (first | exact Nat.zero_le _ | exact Nat.le_refl _)
theorem le_may (v : vw) (x y a : Int32) : (qMay v x y a).1 ≤ 1 := by
  unfold qMay
  repeat' split
  all_goals (first | exact le_my _ _ _ _ | exact Nat.le_refl _)
theorem le_over (v : vw) (x y : Int32) : (qOver v x y).1 ≤ 1 := by
  unfold qOver
  repeat' split
  all_goals (first | exact Nat.zero_le _ | exact Nat.le_refl _)
theorem le_shared (v : vw) (x y : Int32) : (qShared v x y).1 ≤ 1 := by
  unfold qShared
  repeat' split
  all_goals (first | exact Nat.zero_le _ | exact Nat.le_refl _)
theorem le_look (T : ta) (a : Int32) : (qLook T a).1 ≤ 1 := by
  unfold qLook
  split
  · exact Nat.zero_le _
  · exact Nat.le_refl _
theorem le_steps (v : vw) (x y : Int32) : (qSteps v x y).1 ≤ 1 := by
  unfold qSteps
  repeat' split
  all_goals (first | exact Nat.zero_le _ | exact Nat.le_refl _)
theorem le_set (v : vw) (x a : Int32) : (qSet v x a).1 ≤ 1 := by
  unfold qSet qSt
  repeat' split
  all_goals (first | exact Nat.zero_le _ | exact Nat.le_refl _)
theorem le_inside (v : vw) (x y : Int32) : (qInside v x y).1 ≤ 2 := by
  unfold qInside
  repeat' split
  all_goals (first | exact Nat.zero_le _ | exact Nat.le_refl _ | exact Nat.le_succ _)
theorem le_outside (v : vw) (x y : Int32) : (qOutside v x y).1 ≤ 2 := by
  unfold qOutside
  repeat' split
  all_goals (first | exact Nat.zero_le _ | exact Nat.le_refl _ | exact Nat.le_succ _)
theorem le_years (v : vw) (sd k a : Int32) : (qYears v sd k a).1 ≤ 2 := by
  unfold qYears
  repeat' split
  all_goals (first | exact Nat.zero_le _ | exact Nat.le_refl _ | exact Nat.le_succ _)
